section PSD
/-! D: the reference's own walks -/
variable {P : Nat} {mo dd lr gr w c m : Int32} {s g K L G C M R Q F fl mr : Nat → Int32}
theorem ps_ne3 (D : ps_D P s g K L G C M) : ∀ j, j < P → s j = 3 → 0 < (ps_st s j).length := by
  intro j hj h3
  rcases D.1 j hj with ⟨a, _⟩ | ⟨a, _⟩ | ⟨a, _⟩ | ⟨_, _, _, b⟩
  · rw [h3] at a; exact absurd a (by decide)
  · rw [h3] at a; exact absurd a (by decide)
  · rw [h3] at a; exact absurd a (by decide)
  · exact List.length_pos_iff.mpr b
theorem ps_yw {post : Int32 → Prop} (hP : P ≤ 60) (D : ps_D P s g K L G C M) (hp : post (nI (ps_st s P).length)) : ∀ d i : Nat, i + d = P → wY_waiting_4 post mo (nI P) dd lr gr s g fl mr R Q F (d + 1) (nI (ps_st s i).length) (nI i) := by
  intro d
  induction d with
  | zero =>
    intro i ei
    have e : i = P := by omega
    subst e
    exact br_t (nI_le (by omega) (by omega)) hp
  | succ d ih =>
    intro i ei
    have hi : i < P := by omega
    have h6 : i < 60 := by omega
    have ek : (nI i).toNatClampNeg = i := ps_ck (by omega)
    have hn := ih (i + 1) (by omega)
    refine br_f (nI_ge hi (by omega)) ⟨ps_in h6, ?_⟩
    by_cases h2 : s i = 2
    · rw [ps_st2 h2, List.length_cons] at hn
      exact br_t (by rw [ek]; exact h2) (nm_r (nI_1 _) ⟨ps_in h6, br_f (by rw [ek, h2]; decide) (nm_r (nI_1 i) hn)⟩)
    · refine br_f (by rw [ek]; exact h2) ⟨ps_in h6, ?_⟩
      by_cases h3 : s i = 3
      · rw [ps_st3 h3, List.length_tail] at hn
        exact br_t (by rw [ek]; exact h3) (nm_r (ps_a1 (ps_ne3 D i hi h3)) (nm_r (nI_1 i) hn))
      · rw [ps_stn h2 h3] at hn
        exact br_f (by rw [ek]; exact h3) (nm_r (nI_1 i) hn)
theorem ps_ywt {post : Int32 → Prop} (hP : P ≤ 60) (D : ps_D P s g K L G C M) (hp : post (nI (ps_st s P).length)) : wpY_waiting post (mo, nI P, dd, lr, gr, s, g, fl, mr, R, Q, F) :=
  ⟨P + 1, ps_yw hP D hp P 0 (by omega)⟩
theorem ps_y71 {post : Int32 → Prop} {J : Int32 → Int32 → Int32 → Prop} {v a : Int32} {i : Nat} (hi : i < 60) (h : ps_pc s g K L G M i) (hj : J (m + L i) v (nI (i + 1))) : wY_reach_71 post J m v (nI i) mo a dd lr gr s g fl mr R Q F := by
  have ek : (nI i).toNatClampNeg = i := ps_ck (by omega)
  refine ⟨ps_in hi, ?_⟩
  rcases h with ⟨hs, hK, hL⟩ | ⟨hs, hK, hL, hG⟩ | ⟨hs, hK, hL, hG, hM⟩ | ⟨hs, hK, hL, hn⟩
  · rw [hL] at hj
    exact br_t (by rw [ek]; exact hs) ⟨ps_in hi, nm_r (e' := m + g i) (by rw [ek]) ⟨ps_in hi, br_f (by rw [ek, hs]; decide) (nm_r (nI_1 i) hj)⟩⟩
  · rw [hL] at hj
    exact br_f (by rw [ek, hs]; decide) ⟨ps_in hi, br_t (by rw [ek]; exact hs) (nm_e (nm_r (nI_1 i) hj))⟩
  · rw [hL, Int32.add_zero] at hj
    exact br_f (by rw [ek, hs]; decide) ⟨ps_in hi, br_f (by rw [ek, hs]; decide) (nm_r (nI_1 i) hj)⟩
  · rw [hL, Int32.add_zero] at hj
    exact br_f (by rw [ek, hs]; decide) ⟨ps_in hi, br_f (by rw [ek, hs]; decide) (nm_r (nI_1 i) hj)⟩
theorem ps_y54 {post : Int32 → Prop} {J : Int32 → Int32 → Int32 → Prop} {a : Int32} {i : Nat} (n : Nat) (hn : n ≤ 200) (hi : i < 60) (h : ps_pc s g K L G M i) (h0 : n = 0 → s i = 1 → post m) (hj : ¬ (n = 0 ∧ s i = 1) → J (m + L i) (nI n) (nI (i + 1))) : wY_reach_54 post J m (nI n) (nI i) mo a dd lr gr s g fl mr R Q F := by
  have ek : (nI i).toNatClampNeg = i := ps_ck (by omega)
  by_cases hz : n = 0
  · refine br_t ((ps_eq0 hn).mpr hz) ⟨ps_in hi, ?_⟩
    by_cases h1 : s i = 1
    · exact br_t (by rw [ek]; exact h1) (h0 hz h1)
    · exact br_f (by rw [ek]; exact h1) (ps_y71 hi h (hj (fun z => h1 z.2)))
  · exact br_f (fun z => hz ((ps_eq0 hn).mp z)) (ps_y71 hi h (hj (fun z => hz z.1)))
def ps_lv (s : Nat → Int32) (o e i : Nat) : Nat := if i ≤ e then (ps_st s i).length - (ps_st s o).length else 0
theorem ps_lvt {o e i : Nat} (h : i ≤ e) : ps_lv s o e i = (ps_st s i).length - (ps_st s o).length := if_pos h
theorem ps_lvf {o e i : Nat} (h : e < i) : ps_lv s o e i = 0 := if_neg (by omega)
theorem ps_yr {post : Int32 → Prop} {o e : Nat} (hP : P ≤ 60) (D : ps_D P s g K L G C M) (hm : ∀ i, o < i → i ≤ e → i ≤ P → o ∈ ps_st s i) (he : e < P → s e = 3 ∧ (ps_st s e).length = (ps_st s o).length + 1) (hep : e < P ∨ P ≤ e) : ∀ (d i : Nat) (x : Int32), i + d = P → o < i → post (ps_rc s L e d i x) → wY_reach_9 post mo (nI P) dd lr gr s g fl mr R Q F (d + 1) x (nI (ps_lv s o e i)) (nI i) := by
  intro d
  induction d with
  | zero =>
    intro i x ei _ hp
    exact br_t (nI_le (by omega) (by omega)) hp
  | succ d ih =>
    intro i x ei hoi hp
    have hi : i < P := by omega
    have h6 : i < 60 := by omega
    have ek : (nI i).toNatClampNeg = i := ps_ck (by omega)
    have pc := D.1 i hi
    have hlen := ps_len (s := s) i
    have hn := fun hp' => ih (i + 1) (x + L i) (by omega) (by omega) hp'
    refine br_f (nI_ge hi (by omega)) ?_
    by_cases hc : i ≤ e
    · have hlt := ps_B (s := s) (i + 1) i (by omega) (hm i hoi hc (by omega))
      rw [ps_rc3 hc] at hp
      replace hn := hn hp
      rw [ps_lvt hc]
      generalize hN : (ps_st s i).length - (ps_st s o).length = n
      have hn0 : ¬ nI n ≤ 0 := fun z => absurd ((ps_le0 (by omega)).mp z) (by omega)
      refine br_f hn0 ⟨ps_in h6, ?_⟩
      by_cases h2 : s i = 2
      · have hne : i ≠ e := fun z => by
          have := (he (by omega)).1
          rw [← z, h2] at this
          exact absurd this (by decide)
        rw [ps_lvt (by omega), ps_st2 h2, List.length_cons, show (ps_st s i).length + 1 - (ps_st s o).length = n + 1 by omega] at hn
        exact br_t (by rw [ek]; exact h2) (nm_r (nI_1 n) (br_f (fun z => absurd ((ps_le0 (by omega)).mp z) (by omega)) ⟨ps_in h6, br_f (by rw [ek, h2]; decide) (ps_y54 (n + 1) (by omega) h6 pc (fun z => by omega) (fun _ => hn))⟩))
      · refine br_f (by rw [ek]; exact h2) (br_f hn0 ⟨ps_in h6, ?_⟩)
        by_cases h3 : s i = 3
        · have hl : ps_lv s o e (i + 1) = n - 1 := by
            by_cases hc' : i + 1 ≤ e
            · rw [ps_lvt hc', ps_st3 h3, List.length_tail]; omega
            · have ee : i = e := by omega
              have := (he (by omega)).2
              rw [ps_lvf (by omega)]
              rw [← ee] at this
              omega
          rw [hl] at hn
          exact br_t (by rw [ek]; exact h3) (nm_r (ps_a1 (by omega)) (ps_y54 (n - 1) (by omega) h6 pc (fun _ z => absurd (h3.symm.trans z) (by decide)) (fun _ => hn)))
        · have hne : i ≠ e := fun z => by
            have := (he (by omega)).1
            rw [← z] at this
            exact h3 this
          rw [ps_lvt (by omega), ps_stn h2 h3, hN] at hn
          exact br_f (by rw [ek]; exact h3) (ps_y54 n (by omega) h6 pc (fun z => by omega) (fun _ => hn))
    · rw [ps_lvf (by omega)]
      refine br_t (by rw [nI_0]; decide) (br_t (by rw [nI_0]; decide) (ps_y54 0 (by omega) h6 pc (fun _ h1 => ?_) (fun h1 => ?_)))
      · rw [ps_rc1 h1 (by omega)] at hp
        exact hp
      · rw [ps_rc2 (fun z => h1 ⟨rfl, z⟩)] at hp
        replace hn := hn hp
        rw [ps_lvf (by omega)] at hn
        exact hn
theorem ps_yrc {post : Int32 → Prop} {i : Nat} (hP : P ≤ 60) (hi : i < P) (D : ps_D P s g K L G C M) (h2 : s i = 2) (hp : post (ps_rc s L (C i).toNatClampNeg (P - (i + 1)) (i + 1) 0)) : wpY_reach post (mo, nI P, dd, lr, gr, s, g, fl, mr, R, Q, F) (nI i) := by
  obtain ⟨e, he, he6, hie, hm, h3⟩ := ps_clo hP hi (D.2 i hi) h2
  rw [he, ps_ck (by omega)] at hp
  have h := ps_yr (mo := mo) (dd := dd) (lr := lr) (gr := gr) (fl := fl) (mr := mr) (R := R) (Q := Q) (F := F) hP D hm h3 (by omega) (P - (i + 1)) (i + 1) 0 (by omega) (by omega) hp
  rw [ps_lvt (by omega), ps_st2 h2, List.length_cons, show (ps_st s i).length + 1 - (ps_st s i).length = 1 by omega] at h
  exact nm_r (nI_1 i) ⟨_, h⟩
theorem ps_y81 {post : SY → Prop} {z x a : Int32} {i n : Nat} (hi : i < 60) (hn : n < 60) (hz : vp_nar .boolean z = z) (hp : post (mo, a, nI (n + 1), lr, gr, s, g, upd fl n z, upd mr n (x + g i), R, Q, upd F i z)) : wY_enter_81 post (nI i) x z (nI n) mo a (nI n) lr gr s g fl mr R Q F := by
  have ek : (nI i).toNatClampNeg = i := ps_ck (by omega)
  have en : (nI n).toNatClampNeg = n := ps_ck (by omega)
  exact ⟨ps_in hn, nm_r (e' := upd fl n z) (by rw [en, hz]) ⟨ps_in hi, ps_in hn, nm_r (e' := upd mr n (x + g i)) (by rw [en, ek]) ⟨ps_in hn, ps_in hi, nm_r (e' := upd F i z) (by rw [en, ek, ps_us, hz]) (nm_r (nI_1 n) hp)⟩⟩⟩
theorem ps_y50 {post : SY → Prop} {x : Int32} {i n : Nat} (hP : P ≤ 60) (hi : i < P) (hn : n < 60) (D : ps_D P s g K L G C M) (h2 : s i = 2) (hp : post (mo, nI P, nI (n + 1), lr, gr, s, g, upd fl n (ps_bf P s L C F w i c), upd mr n (x + g i), R, Q, upd F i (ps_bf P s L C F w i c))) : wY_enter_50 post (nI i) c w (ps_fl F (ps_st s i)) x mo (nI P) (nI n) lr gr s g fl mr R Q F := by
  unfold ps_bf at hp
  by_cases hf : ps_fl F (ps_st s i) = 0
  · rw [if_pos hf] at hp
    refine br_t hf (ps_yrc hP hi D h2 ?_)
    by_cases hw : w < c + ps_rc s L (C i).toNatClampNeg (P - (i + 1)) (i + 1) 0
    · rw [if_pos hw] at hp
      exact br_t hw (ps_y81 (by omega) hn ps_vb0 hp)
    · rw [if_neg hw] at hp
      exact br_f hw (ps_y81 (by omega) hn ps_vb1 hp)
  · rw [if_neg hf] at hp
    exact br_f hf (ps_y81 (by omega) hn ps_vb1 hp)
theorem ps_yen {post : SY → Prop} {i : Nat} (hP : P ≤ 60) (hi : i < P) (D : ps_D P s g K L G C M) (h2 : s i = 2) (al : ps_al F M fl mr (ps_st s i)) (hp : post (mo, nI P, nI ((ps_st s i).length + 1), lr, gr, s, g, upd fl (ps_st s i).length (ps_bf P s L C F w i c), upd mr (ps_st s i).length (ps_mi M (ps_st s i) + g i), R, Q, upd F i (ps_bf P s L C F w i c))) : wpY_enter post (mo, nI P, nI (ps_st s i).length, lr, gr, s, g, fl, mr, R, Q, F) (nI i) c w := by
  have hlen := ps_len (s := s) i
  have h50 : ∀ x, x = ps_mi M (ps_st s i) → wY_enter_50 post (nI i) c w (ps_fl F (ps_st s i)) x mo (nI P) (nI (ps_st s i).length) lr gr s g fl mr R Q F := fun x hx => ps_y50 hP hi (by omega) D h2 (by rw [hx]; exact hp)
  cases hs : ps_st s i with
  | nil =>
    rw [hs] at h50
    exact br_t (by decide) (br_t (by decide) (h50 0 rfl))
  | cons o t =>
    rw [hs] at h50 al hlen
    rw [List.length_cons] at h50 hlen ⊢
    have hd : ¬ nI (t.length + 1) ≤ 0 := fun z => absurd ((ps_le0 (by omega)).mp z) (by omega)
    have ed : (nI (t.length + 1) - 1).toNatClampNeg = t.length := by rw [nI_pred, ps_ck (by omega)]
    have vd : vp_in (nI (t.length + 1) - 1) 60 := by rw [nI_pred]; exact ps_in (by omega)
    have h26 : wY_enter_26 post (nI i) c w (ps_fl F (o :: t)) mo (nI P) (nI (t.length + 1)) lr gr s g fl mr R Q F := br_f hd ⟨vd, h50 _ (by rw [ed]; exact al.2.1)⟩
    refine br_f hd ⟨vd, ?_⟩
    by_cases hf : F o = 0
    · rw [ps_fl, if_pos hf] at h26
      exact br_t (by rw [ed, al.1]; exact hf) h26
    · rw [ps_fl, if_neg hf] at h26
      exact br_f (by rw [ed, al.1]; exact hf) h26
theorem ps_y193 {post : SY → Prop} {J : Int32 → Int32 → Int32 → Int32 → Int32 → Int32 → Int32 → (Nat → Int32) → (Nat → Int32) → (Nat → Int32) → (Nat → Int32) → (Nat → Int32) → (Nat → Int32) → (Nat → Int32) → Prop} {a : Int32} {i : Nat} (hj : J c (nI (i + 1)) mo a dd lr (ps_gr gr c) s g fl mr R Q F) : wY_lay_193 post J w c (nI i) mo a dd lr gr s g fl mr R Q F := by
  unfold ps_gr at hj
  by_cases h : c ≤ gr
  · rw [if_pos h] at hj
    exact br_t h (nm_r (nI_1 i) hj)
  · rw [if_neg h] at hj
    exact br_f h (nm_r (nI_1 i) hj)
end PSD
