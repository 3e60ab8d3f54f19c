section PSE
/-! E: the reference's laying out -/
variable {P : Nat} {mo dd lr gr w c m r : Int32} {s g K L G C M R Q F fl mr : Nat → Int32} {post : SY → Prop} {J : Int32 → Int32 → Int32 → Int32 → Int32 → Int32 → Int32 → (Nat → Int32) → (Nat → Int32) → (Nat → Int32) → (Nat → Int32) → (Nat → Int32) → (Nat → Int32) → (Nat → Int32) → Prop}
theorem ps_y156 {a : Int32} {i : Nat} (hi : i < 60) (h2 : ¬ s i = 2) (h3 : ¬ s i = 3) (hj : J c (nI (i + 1)) mo a dd lr (ps_gr gr c) s g fl mr R Q F) : wY_lay_156 post J w c (nI i) mo a dd lr gr s g fl mr R Q F := by
  have ek : (nI i).toNatClampNeg = i := ps_ck (by omega)
  exact ⟨ps_in hi, br_f (by rw [ek]; exact h2) ⟨ps_in hi, br_f (by rw [ek]; exact h3) (ps_y193 hj)⟩⟩
theorem ps_y70 {i : Nat} (hP : P ≤ 60) (hi : i < P) (D : ps_D P s g K L G C M) (al : ps_al F M fl mr (ps_st s i)) (hj : ∀ fl' mr', ps_al (ps_stp P s L C M w i (r, c, m, R, Q, F)).2.2.2.2.2 M fl' mr' (ps_st s (i + 1)) → J (ps_stp P s L C M w i (r, c, m, R, Q, F)).2.1 (nI (i + 1)) mo (nI P) (nI (ps_st s (i + 1)).length) (ps_stp P s L C M w i (r, c, m, R, Q, F)).1 (ps_stp P s L C M w i (r, c, m, R, Q, F)).2.2.1 s g fl' mr' (ps_stp P s L C M w i (r, c, m, R, Q, F)).2.2.2.1 (ps_stp P s L C M w i (r, c, m, R, Q, F)).2.2.2.2.1 (ps_stp P s L C M w i (r, c, m, R, Q, F)).2.2.2.2.2) : wY_lay_70 post J w c (nI i) (ps_fl F (ps_st s i)) mo (nI P) (nI (ps_st s i).length) r m s g fl mr (upd R i r) (upd Q i c) F := by
  have ek : (nI i).toNatClampNeg = i := ps_ck (by omega)
  have h6 : i < 60 := by omega
  have hlen := ps_len (s := s) i
  refine ⟨ps_in h6, ?_⟩
  rcases D.1 i hi with ⟨hs, hK, hL⟩ | ⟨hs, hK, hL, hG⟩ | ⟨hs, hK, hL, hG, hM⟩ | ⟨hs, hK, hL, hn⟩
  · have n2 : ¬ s i = 2 := by rw [hs]; decide
    have n3 : ¬ s i = 3 := by rw [hs]; decide
    rw [ps_stpN n2 (fun z => absurd (hs.symm.trans z) (by decide)), ps_stn n2 n3] at hj
    exact br_t (by rw [ek]; exact hs) ⟨ps_in h6, nm_r (e' := c + L i) (by rw [ek, hL]) ⟨ps_in h6, br_f (by rw [ek, hs]; decide) ⟨ps_in h6, br_f (by rw [ek, hs]; decide) (ps_y156 h6 n2 n3 (hj fl mr al))⟩⟩⟩
  · have n2 : ¬ s i = 2 := by rw [hs]; decide
    have n3 : ¬ s i = 3 := by rw [hs]; decide
    have s1 : s (nI i).toNatClampNeg = 1 := by rw [ek]; exact hs
    refine br_f (by rw [ek, hs]; decide) ⟨ps_in h6, br_t s1 ?_⟩
    by_cases hf : ps_fl F (ps_st s i) = 0
    · rw [ps_stpB hs hf, ps_stn n2 n3] at hj
      replace hj := hj fl mr al
      refine br_t hf ⟨ps_in h6, br_t s1 (br_t hf (nm_e ?_))⟩
      cases hst : ps_st s i with
      | nil =>
        rw [hst] at hj
        exact br_t (by decide) (ps_y156 h6 n2 n3 hj)
      | cons o t =>
        rw [hst] at hj al hlen
        rw [List.length_cons] at hj hlen ⊢
        have hd : ¬ nI (t.length + 1) ≤ 0 := fun z => absurd ((ps_le0 (by omega)).mp z) (by omega)
        have ed : (nI (t.length + 1) - 1).toNatClampNeg = t.length := by rw [nI_pred, ps_ck (by omega)]
        have vd : vp_in (nI (t.length + 1) - 1) 60 := by rw [nI_pred]; exact ps_in (by omega)
        refine br_f hd ⟨vd, ?_⟩
        rw [ed, al.2.1]
        exact ps_y156 h6 n2 n3 hj
    · rw [ps_stpN n2 (fun _ => hf), ps_stn n2 n3] at hj
      exact br_f hf (nm_r (e' := c + L i) (by rw [hL]) ⟨ps_in h6, br_t s1 (br_f hf (ps_y156 h6 n2 n3 (hj fl mr al)))⟩)
  · have n3 : ¬ s (nI i).toNatClampNeg = 3 := by rw [ek, hs]; decide
    rw [ps_stpO hs, ps_st2 hs, List.length_cons] at hj
    exact br_f (by rw [ek, hs]; decide) ⟨ps_in h6, br_f (by rw [ek, hs]; decide) ⟨ps_in h6, br_f (by rw [ek, hs]; decide) ⟨ps_in h6, br_t (by rw [ek]; exact hs) (ps_yen hP hi D hs al ⟨ps_in h6, br_f n3 (ps_y193 (hj _ _ (ps_alO _ _ hM al)))⟩)⟩⟩⟩
  · have n2 : ¬ s (nI i).toNatClampNeg = 2 := by rw [ek, hs]; decide
    rw [ps_stpN (by rw [hs]; decide) (fun z => absurd (hs.symm.trans z) (by decide)), ps_st3 hs, List.length_tail, hL, Int32.add_zero] at hj
    exact br_f (by rw [ek, hs]; decide) ⟨ps_in h6, br_f (by rw [ek, hs]; decide) ⟨ps_in h6, br_f (by rw [ek, hs]; decide) ⟨ps_in h6, br_f n2 ⟨ps_in h6, br_t (by rw [ek]; exact hs) (nm_r (ps_s1 (ps_ne3 D i hi hs)) (ps_y193 (hj fl mr (ps_alC _ al))))⟩⟩⟩⟩
def ps_YS (P : Nat) (mo n : Int32) (s g fl mr : Nat → Int32) (x : ps_T) : SY := (mo, nI P, n, x.1, x.2.2.1, s, g, fl, mr, x.2.2.2.1, x.2.2.2.2.1, x.2.2.2.2.2)
theorem ps_ygo (hP : P ≤ 60) (D : ps_D P s g K L G C M) : ∀ (d i : Nat) (x : ps_T) (fl mr : Nat → Int32), i + d = P → ps_al x.2.2.2.2.2 M fl mr (ps_st s i) → (∀ n fl' mr', post (ps_YS P mo n s g fl' mr' (ps_go P s L C M w d i x))) → wY_lay_19 post w (d + 1) x.2.1 (nI i) mo (nI P) (nI (ps_st s i).length) x.1 x.2.2.1 s g fl mr x.2.2.2.1 x.2.2.2.2.1 x.2.2.2.2.2 := by
  intro d
  induction d with
  | zero =>
    intro i x fl mr ei _ hp
    exact br_t (nI_le (by omega) (by omega)) (hp _ fl mr)
  | succ d ih =>
    intro i x fl mr ei al hp
    have hi : i < P := by omega
    have h6 : i < 60 := by omega
    have ek : (nI i).toNatClampNeg = i := ps_ck (by omega)
    have hlen := ps_len (s := s) i
    obtain ⟨r, c, m, R, Q, F⟩ := x
    have h70 := ps_y70 (post := post) (J := wY_lay_19 post w (d + 1)) (mo := mo) (w := w) (c := c) (m := m) (r := r) (R := R) (Q := Q) (F := F) hP hi D al (fun fl' mr' al' => ih (i + 1) (ps_stp P s L C M w i (r, c, m, R, Q, F)) fl' mr' (by omega) al' hp)
    refine br_f (nI_ge hi (by omega)) ⟨ps_in h6, nm_r (e' := upd R i r) (by rw [ek]) ⟨ps_in h6, nm_r (e' := upd Q i c) (by rw [ek]) ?_⟩⟩
    cases hst : ps_st s i with
    | nil =>
      rw [hst] at h70
      exact br_t (by decide) h70
    | cons o t =>
      rw [hst] at h70 al hlen
      rw [List.length_cons] at h70 hlen ⊢
      have hd : ¬ nI (t.length + 1) ≤ 0 := fun z => absurd ((ps_le0 (by omega)).mp z) (by omega)
      have ed : (nI (t.length + 1) - 1).toNatClampNeg = t.length := by rw [nI_pred, ps_ck (by omega)]
      have vd : vp_in (nI (t.length + 1) - 1) 60 := by rw [nI_pred]; exact ps_in (by omega)
      refine br_f hd ⟨vd, ?_⟩
      by_cases hf : F o = 0
      · rw [ps_fl, if_pos hf] at h70
        exact br_t (by rw [ed, al.1]; exact hf) h70
      · rw [ps_fl, if_neg hf] at h70
        exact br_f (by rw [ed, al.1]; exact hf) h70
theorem ps_yly (hP : P ≤ 60) (D : ps_D P s g K L G C M) (hp : ∀ n fl' mr', post (ps_YS P mo n s g fl' mr' (ps_ly P s L C M w R Q F))) : wpY_lay post (mo, nI P, dd, lr, gr, s, g, fl, mr, R, Q, F) w :=
  ⟨P + 1, ps_ygo hP D P 0 (0, 0, 0, R, Q, F) fl mr (by omega) trivial hp⟩
end PSE
section PSF
variable {P : Nat} {mo dd lr gr : Int32} {s g fl mr R Q F : Nat → Int32} {post : Int32 → SY → Prop}
theorem ps_yadd {k l : Int32} (hP : P < 60) (hp : post (nI (P + 1)) (mo, nI (P + 1), dd, lr, gr, upd s P k, upd g P l, fl, mr, R, Q, F)) : wpY_add post (mo, nI P, dd, lr, gr, s, g, fl, mr, R, Q, F) k l := by
  have ek : (nI P).toNatClampNeg = P := ps_ck (by omega)
  have h : ¬ nI P = 60 := fun z => absurd ((nI_eq (a := P) (b := 60) (by omega) (by decide)).mp z) (by omega)
  exact br_f h ⟨ps_in hP, nm_r (e' := upd s P k) (by rw [ek]) ⟨ps_in hP, nm_r (e' := upd g P l) (by rw [ek]) (nm_r (nI_1 P) hp)⟩⟩
theorem ps_yad6 {k l : Int32} (hP : P = 60) (hp : post (-1) (mo, nI P, dd, lr, gr, s, g, fl, mr, R, Q, F)) : wpY_add post (mo, nI P, dd, lr, gr, s, g, fl, mr, R, Q, F) k l := by
  subst hP
  exact br_t rfl hp
end PSF
