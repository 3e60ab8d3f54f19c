section PSC
/-! C: the component's own walks -/
variable {P : Nat} {inn unc cw r c m w : Int32} {s g K L G C M R Q F : Nat → Int32}
def ps_XS (P : Nat) (inn unc cw : Int32) (K L G C M : Nat → Int32) (x : ps_T) : SX := (nI P, inn, unc, cw, x.1, x.2.1, x.2.2.1, K, L, G, C, M, x.2.2.2.1, x.2.2.2.2.1, x.2.2.2.2.2)
theorem ps_xr {post : Int32 → Prop} {o e : Nat} (hP : P ≤ 60) (ho : o < 60) (hK : ∀ j, j < P → (K j = 2 ↔ s j = 1)) (hC : C o = nI e) (he : e ≤ 60) : ∀ (d i : Nat) (x : Int32), i + d = P → post (ps_rc s L e d i x) → wX_reach_6 post (nI o) (nI P) inn unc cw r c m K L G C M R Q F (d + 1) x (nI i) := by
  intro d
  induction d with
  | zero =>
    intro i x ei hp
    exact br_t (nI_le (by omega) (by omega)) hp
  | succ d ih =>
    intro i x ei hp
    have hi : i < P := by omega
    have ek : (nI i).toNatClampNeg = i := ps_ck (by omega)
    have eo : (nI o).toNatClampNeg = o := ps_ck (by omega)
    have nx : ps_rc s L e (d + 1) i x = ps_rc s L e d (i + 1) (x + L i) → wX_reach_37 post (wX_reach_6 post (nI o) (nI P) inn unc cw r c m K L G C M R Q F (d + 1)) (nI o) x (nI i) (nI P) inn unc cw r c m K L G C M R Q F := by
      intro h
      rw [h] at hp
      exact ⟨ps_in (by omega), nm_r (e' := x + L i) (by rw [ek]) (nm_r (nI_1 i) (ih (i + 1) (x + L i) (by omega) hp))⟩
    refine br_f (nI_ge hi (by omega)) ⟨ps_in (by omega), ?_⟩
    by_cases h1 : s i = 1
    · refine br_t (by rw [ek]; exact (hK i hi).mpr h1) ⟨ps_in ho, ?_⟩
      by_cases h2 : i ≤ e
      · exact br_t (by rw [eo, hC]; exact nI_le h2 (by omega)) (nx (ps_rc3 h2))
      · exact br_f (by rw [eo, hC]; exact nI_ge (by omega) (by omega)) (by rw [ps_rc1 h1 (by omega)] at hp; exact hp)
    · exact br_f (by rw [ek]; exact fun z => h1 ((hK i hi).mp z)) (nx (ps_rc2 h1))
theorem ps_K2 (D : ps_D P s g K L G C M) : ∀ j, j < P → (K j = 2 ↔ s j = 1) := by
  intro j hj
  rcases D.1 j hj with ⟨a, b, _⟩ | ⟨a, b, _⟩ | ⟨a, b, _⟩ | ⟨a, b, _⟩ <;> rw [a, b] <;> decide
theorem ps_K3 (D : ps_D P s g K L G C M) : ∀ j, j < P → (K j = 3 ↔ s j = 2) := by
  intro j hj
  rcases D.1 j hj with ⟨a, b, _⟩ | ⟨a, b, _⟩ | ⟨a, b, _⟩ | ⟨a, b, _⟩ <;> rw [a, b] <;> decide
theorem ps_xrc {post : Int32 → Prop} {i : Nat} (hP : P ≤ 60) (hi : i < P) (D : ps_D P s g K L G C M) (h2 : s i = 2) (hp : post (ps_rc s L (C i).toNatClampNeg (P - (i + 1)) (i + 1) 0)) : wpX_reach post (nI P, inn, unc, cw, r, c, m, K, L, G, C, M, R, Q, F) (nI i) := by
  obtain ⟨e, he, he6, _⟩ := ps_clo hP hi (D.2 i hi) h2
  rw [he, ps_ck (by omega)] at hp
  exact nm_r (nI_1 i) ⟨_, ps_xr hP (by omega) (ps_K2 D) he he6 (P - (i + 1)) (i + 1) 0 (by omega) hp⟩
theorem ps_xfi {post : Int32 → Prop} {a : Int32} {l : List Nat} (hl : ∀ o t, l = o :: t → o < 60) (hp : post (ps_fl F l)) : wpX_isFlatInside post (a, inn, unc, cw, r, c, m, K, L, G, C, M, R, Q, F) (ps_hd l) := by
  cases l with
  | nil => exact br_t rfl hp
  | cons o t =>
    have ho := hl o t rfl
    have eo : (ps_hd (o :: t)).toNatClampNeg = o := ps_ck (n := o) (by omega)
    refine br_f (ps_ne1 (by omega)) ⟨ps_in ho, ?_⟩
    by_cases h : F o = 0
    · exact br_t (by rw [eo]; exact h) (by rw [ps_fl, if_pos h] at hp; exact hp)
    · exact br_f (by rw [eo]; exact h) (by rw [ps_fl, if_neg h] at hp; exact hp)
theorem ps_xmi {post : Int32 → Prop} {a : Int32} {l : List Nat} (hl : ∀ o t, l = o :: t → o < 60) (hp : post (ps_mi M l)) : wpX_marginInside post (a, inn, unc, cw, r, c, m, K, L, G, C, M, R, Q, F) (ps_hd l) := by
  cases l with
  | nil => exact br_t rfl hp
  | cons o t =>
    have ho := hl o t rfl
    have eo : (ps_hd (o :: t)).toNatClampNeg = o := ps_ck (n := o) (by omega)
    refine br_f (ps_ne1 (by omega)) ⟨ps_in ho, ?_⟩
    rw [eo]
    exact hp
theorem ps_hl {i : Nat} (hi : i ≤ 60) : ∀ o t, ps_st s i = o :: t → o < 60 := by
  intro o t h
  have := (ps_A' h).2.1
  omega
theorem ps_xbf {post : Int32 → Prop} {i : Nat} (hP : P ≤ 60) (hi : i < P) (D : ps_D P s g K L G C M) (h2 : s i = 2) (hG : G i = ps_hd (ps_st s i)) (hp : post (ps_bf P s L C F w i c)) : wpX_becomesFlat post (nI P, inn, unc, cw, r, c, m, K, L, G, C, M, R, Q, F) (nI i) w := by
  have ek : (nI i).toNatClampNeg = i := ps_ck (by omega)
  refine ⟨ps_in (by omega), ?_⟩
  rw [ek, hG]
  refine ps_xfi (ps_hl (by omega)) ?_
  unfold ps_bf at hp
  by_cases hf : ps_fl F (ps_st s i) = 0
  · rw [if_pos hf] at hp
    refine br_t hf (ps_xrc hP hi D h2 (nm_e ?_))
    by_cases hw : w < c + ps_rc s L (C i).toNatClampNeg (P - (i + 1)) (i + 1) 0
    · rw [if_pos hw] at hp
      exact br_t hw hp
    · rw [if_neg hw] at hp
      exact br_f hw hp
  · rw [if_neg hf] at hp
    exact br_f hf hp
theorem ps_x107 {post : SX → Prop} {a : Int32} (hp : post (a, inn, unc, cw, r, c, ps_gr m c, K, L, G, C, M, R, Q, F)) : wX_place_107 post a inn unc cw r c m K L G C M R Q F := by
  unfold ps_gr at hp
  by_cases h : c ≤ m
  · rw [if_pos h] at hp
    exact br_t h hp
  · rw [if_neg h] at hp
    exact br_f h hp
theorem ps_x92 {post : SX → Prop} {a : Int32} {i : Nat} (hi : i < 60) (hp : post (a, inn, unc, cw, r, c + L i, ps_gr m (c + L i), K, L, G, C, M, R, Q, F)) : wX_place_92 post (nI i) a inn unc cw r c m K L G C M R Q F := by
  have ek : (nI i).toNatClampNeg = i := ps_ck (by omega)
  exact ⟨ps_in hi, nm_r (e' := c + L i) (by rw [ek]) (ps_x107 hp)⟩
theorem ps_xpl {post : SX → Prop} {i : Nat} (hP : P ≤ 60) (hi : i < P) (D : ps_D P s g K L G C M) (hp : post (ps_XS P inn unc cw K L G C M (ps_stp P s L C M w i (r, c, m, R, Q, F)))) : wpX_place post (nI P, inn, unc, cw, r, c, m, K, L, G, C, M, R, Q, F) (nI i) w := by
  have ek : (nI i).toNatClampNeg = i := ps_ck (by omega)
  have h6 : i < 60 := by omega
  refine ⟨ps_in h6, nm_r (e' := upd R i r) (by rw [ek]) ⟨ps_in h6, nm_r (e' := upd Q i c) (by rw [ek]) ⟨ps_in h6, ?_⟩⟩⟩
  rcases D.1 i hi with ⟨hs, hK, hL⟩ | ⟨hs, hK, hL, hG⟩ | ⟨hs, hK, hL, hG, hM⟩ | ⟨hs, hK, hL, hn⟩
  · rw [ps_stpN (by rw [hs]; decide) (fun z => absurd (hs.symm.trans z) (by decide))] at hp
    exact br_f (by rw [ek, hK]; decide) ⟨ps_in h6, br_f (by rw [ek, hK]; decide) (ps_x92 h6 hp)⟩
  · refine br_f (by rw [ek, hK]; decide) ⟨ps_in h6, br_t (by rw [ek, hK]) ⟨ps_in h6, ?_⟩⟩
    rw [ek, hG]
    refine ps_xfi (ps_hl (by omega)) ?_
    by_cases hf : ps_fl F (ps_st s i) = 0
    · rw [ps_stpB hs hf] at hp
      exact br_t hf (nm_e ⟨ps_in h6, ps_xmi (ps_hl (by omega)) (ps_x107 hp)⟩)
    · rw [ps_stpN (by rw [hs]; decide) (fun _ => hf)] at hp
      exact br_f hf (ps_x92 h6 hp)
  · rw [ps_stpO hs] at hp
    refine br_t (by rw [ek, hK]) (ps_xbf hP hi D hs hG ⟨ps_in h6, nm_r (e' := upd F i (ps_bf P s L C F w i c)) (by rw [ek, ps_bf01]) ⟨ps_in h6, br_f (by rw [ek, hK]; decide) (ps_x92 h6 ?_)⟩⟩)
    rw [hL, Int32.add_zero]
    exact hp
  · rw [ps_stpN (by rw [hs]; decide) (fun z => absurd (hs.symm.trans z) (by decide))] at hp
    exact br_f (by rw [ek, hK]; decide) ⟨ps_in h6, br_f (by rw [ek, hK]; decide) (ps_x92 h6 hp)⟩
theorem ps_xgo {post : SX → Prop} (hP : P ≤ 60) (D : ps_D P s g K L G C M) : ∀ (d i : Nat) (x : ps_T), i + d = P → post (ps_XS P inn unc cw K L G C M (ps_go P s L C M w d i x)) → wX_layOut_17 post w (d + 1) (nI i) (nI P) inn unc cw x.1 x.2.1 x.2.2.1 K L G C M x.2.2.2.1 x.2.2.2.2.1 x.2.2.2.2.2 := by
  intro d
  induction d with
  | zero =>
    intro i x ei hp
    exact br_t (nI_le (by omega) (by omega)) hp
  | succ d ih =>
    intro i x ei hp
    have hi : i < P := by omega
    exact br_f (nI_ge hi (by omega)) (ps_xpl hP hi D (nm_r (nI_1 i) (ih (i + 1) (ps_stp P s L C M w i x) (by omega) hp)))
theorem ps_xly {post : SX → Prop} (hP : P ≤ 60) (D : ps_D P s g K L G C M) (hp : post (ps_XS P inn unc cw K L G C M (ps_ly P s L C M w R Q F))) : wpX_layOut post (nI P, inn, unc, cw, r, c, m, K, L, G, C, M, R, Q, F) w :=
  ⟨P + 1, ps_xgo hP D P 0 (0, 0, 0, R, Q, F) (by omega) hp⟩
theorem ps_xadd {post : Int32 → SX → Prop} {k l : Int32} (hP : P < 60) (hp : post (nI (P + 1)) (nI (P + 1), inn, unc, cw, r, c, m, upd K P k, upd L P l, upd G P inn, C, M, R, Q, F)) : wpX_add post (nI P, inn, unc, cw, r, c, m, K, L, G, C, M, R, Q, F) k l := by
  have ek : (nI P).toNatClampNeg = P := ps_ck (by omega)
  exact ⟨ps_in hP, nm_r (e' := upd K P k) (by rw [ek]) ⟨ps_in hP, nm_r (e' := upd L P l) (by rw [ek]) ⟨ps_in hP, nm_r (e' := upd G P inn) (by rw [ek]) (nm_r (nI_1 P) hp)⟩⟩⟩
theorem ps_xnf {post : Int32 → Prop} (hP : P < 60) (hp : post 0) : wpX_isFull post (nI P, inn, unc, cw, r, c, m, K, L, G, C, M, R, Q, F) := br_t (nI_lt (b := 60) hP (by decide)) hp
theorem ps_xf {post : Int32 → Prop} (hP : 60 ≤ P) (h2 : P ≤ 60) (hp : post 1) : wpX_isFull post (nI P, inn, unc, cw, r, c, m, K, L, G, C, M, R, Q, F) := br_f (nI_nlt (b := 60) hP (by omega)) hp
end PSC
