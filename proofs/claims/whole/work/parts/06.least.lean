section PSG
/-! F: the least width, the limits of the width, is there such a piece -/
variable {P : Nat} {inn unc cw r c m mo dd lr gr x1 : Int32} {s g K L G C M R Q F fl mr : Nat → Int32}
def ps_lw (P : Nat) (s L C M : Nat → Int32) (x1 : Int32) : Nat → Nat → (Nat → Int32) → (Nat → Int32) → (Nat → Int32) → Int32 × (Nat → Int32) × (Nat → Int32) × (Nat → Int32)
  | 0, _, R, Q, F => (101, R, Q, F)
  | d + 1, i, R, Q, F =>
    if x1 < (ps_ly P s L C M (nI i) R Q F).1 + 1 then ps_lw P s L C M x1 d (i + 1) (ps_ly P s L C M (nI i) R Q F).2.2.2.1 (ps_ly P s L C M (nI i) R Q F).2.2.2.2.1 (ps_ly P s L C M (nI i) R Q F).2.2.2.2.2
    else (nI i, (ps_ly P s L C M (nI i) R Q F).2.2.2.1, (ps_ly P s L C M (nI i) R Q F).2.2.2.2.1, (ps_ly P s L C M (nI i) R Q F).2.2.2.2.2)
theorem ps_xlw {post : Int32 → SX → Prop} (hP : P ≤ 60) (D : ps_D P s g K L G C M) : ∀ (d i : Nat) (r c m : Int32) (R Q F : Nat → Int32), i + d = 101 → (∀ a b e, post (ps_lw P s L C M x1 d i R Q F).1 (nI P, inn, unc, cw, a, b, e, K, L, G, C, M, (ps_lw P s L C M x1 d i R Q F).2.1, (ps_lw P s L C M x1 d i R Q F).2.2.1, (ps_lw P s L C M x1 d i R Q F).2.2.2)) → wX_leastWidth_2 post x1 (d + 1) (nI i) (nI P) inn unc cw r c m K L G C M R Q F := by
  intro d
  induction d with
  | zero =>
    intro i r c m R Q F ei hp
    exact br_t (nI_lt (a := 100) (by omega) (by omega)) (hp r c m)
  | succ d ih =>
    intro i r c m R Q F ei hp
    refine br_f (nI_nlt (a := 100) (b := i) (by omega) (by decide)) (ps_xly hP D ?_)
    by_cases h : x1 < (ps_ly P s L C M (nI i) R Q F).1 + 1
    · rw [ps_lw, if_pos h] at hp
      exact br_t h (nm_r (nI_1 i) (ih (i + 1) _ _ _ _ _ _ (by omega) hp))
    · rw [ps_lw, if_neg h] at hp
      exact br_f h (hp _ _ _)
theorem ps_ylw {post : Int32 → SY → Prop} (hP : P ≤ 60) (D : ps_D P s g K L G C M) : ∀ (d i : Nat) (dd lr gr : Int32) (fl mr R Q F : Nat → Int32), i + d = 101 → (∀ a b e fl' mr', post (ps_lw P s L C M x1 d i R Q F).1 (mo, nI P, a, b, e, s, g, fl', mr', (ps_lw P s L C M x1 d i R Q F).2.1, (ps_lw P s L C M x1 d i R Q F).2.2.1, (ps_lw P s L C M x1 d i R Q F).2.2.2)) → wY_leastWidth_2 post x1 (d + 1) (nI i) mo (nI P) dd lr gr s g fl mr R Q F := by
  intro d
  induction d with
  | zero =>
    intro i dd lr gr fl mr R Q F ei hp
    exact br_t (nI_lt (a := 100) (by omega) (by omega)) (hp dd lr gr fl mr)
  | succ d ih =>
    intro i dd lr gr fl mr R Q F ei hp
    refine br_f (nI_nlt (a := 100) (b := i) (by omega) (by decide)) (ps_yly hP D (fun n fl' mr' => ?_))
    by_cases h : x1 < (ps_ly P s L C M (nI i) R Q F).1 + 1
    · rw [ps_lw, if_pos h] at hp
      exact br_t h (nm_r (nI_1 i) (ih (i + 1) _ _ _ _ _ _ _ _ (by omega) hp))
    · rw [ps_lw, if_neg h] at hp
      exact br_f h (hp _ _ _ _ _)
def ps_cw (x : Int32) : Int32 := if 1 ≤ x then (if x ≤ 100 then x else 100) else 1
theorem ps_xwl {post : Int32 → Prop} {x : Int32} (hp : post (ps_cw x)) : wpX_withinLimits post x := by
  unfold ps_cw at hp
  by_cases h : 1 ≤ x
  · rw [if_pos h] at hp
    by_cases h2 : x ≤ 100
    · rw [if_pos h2] at hp
      exact br_t h (br_t h2 hp)
    · rw [if_neg h2] at hp
      exact br_t h (br_f h2 hp)
  · rw [if_neg h] at hp
    exact br_f h hp
theorem ps_ywd {post : SY → Prop} {x a : Int32} (hp : post (ps_cw x, a, dd, lr, gr, s, g, fl, mr, R, Q, F)) : wpY_width post (mo, a, dd, lr, gr, s, g, fl, mr, R, Q, F) x := by
  unfold ps_cw at hp
  by_cases h : 1 ≤ x
  · rw [if_pos h] at hp
    by_cases h2 : x ≤ 100
    · rw [if_pos h2] at hp
      exact br_t h (br_t h2 hp)
    · rw [if_neg h2] at hp
      exact br_t h (br_f h2 hp)
  · rw [if_neg h] at hp
    exact br_f h hp
/-- no such piece -/
def ps_no (P : Nat) (x : Int32) : Prop := x < 0 ∨ nI P ≤ x
theorem ps_ix (P : Nat) (hP : P ≤ 60) (x : Int32) : ps_no P x ∨ ∃ j : Nat, j < P ∧ x = nI j := by
  by_cases h : x < 0
  · exact Or.inl (Or.inl h)
  · obtain ⟨j, hj, rfl⟩ := nI_of h
    by_cases h2 : j < P
    · exact Or.inr ⟨j, h2, rfl⟩
    · exact Or.inl (Or.inr (nI_le (by omega) hj))
theorem ps_xpn {post : Int32 → Prop} {x : Int32} (h : ps_no P x) (hp : post 0) : wpX_isPiece post (nI P, inn, unc, cw, r, c, m, K, L, G, C, M, R, Q, F) x := by
  by_cases h0 : x < 0
  · exact br_t h0 hp
  · exact br_f h0 (br_t (h.resolve_left h0) hp)
theorem ps_xpy {post : Int32 → Prop} {j : Nat} (hP : P ≤ 60) (h : j < P) (hp : post 1) : wpX_isPiece post (nI P, inn, unc, cw, r, c, m, K, L, G, C, M, R, Q, F) (nI j) :=
  br_f (nI_pos (by omega)) (br_f (nI_ge h (by omega)) hp)
theorem ps_ypn {post : Int32 → Prop} {x : Int32} (h : ps_no P x) (hp : post 1) : wpY_missing post (mo, nI P, dd, lr, gr, s, g, fl, mr, R, Q, F) x := by
  by_cases h0 : x < 0
  · exact br_t h0 hp
  · exact br_f h0 (br_f (Int32.not_lt.mpr (h.resolve_left h0)) hp)
theorem ps_ypy {post : Int32 → Prop} {j : Nat} (hP : P ≤ 60) (h : j < P) (hp : post 0) : wpY_missing post (mo, nI P, dd, lr, gr, s, g, fl, mr, R, Q, F) (nI j) :=
  br_f (nI_pos (by omega)) (br_t (nI_lt h (by omega)) hp)
theorem ps_10 : ¬ (1 : Int32) = 0 := by decide
end PSG
