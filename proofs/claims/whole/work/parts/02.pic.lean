section PSB
/-! B: numbers; the reach and the laying out as pure functions -/
theorem ps_in {n : Nat} (h : n < 60) : vp_in (nI n) 60 := vp_in_nI h (by omega)
theorem ps_ck {n : Nat} (h : n ≤ 200) : (nI n).toNatClampNeg = n := nI_clamp (by omega)
theorem ps_ne1 {a : Nat} (h : a ≤ 200) : ¬ nI a = -1 := by
  intro e
  have h1 := nI_pos (n := a) (by omega)
  rw [e] at h1
  exact h1 (by decide)
theorem ps_m1 (n : Nat) : nI (n + 1) + (-1) = nI n := by
  rw [← nI_1, Int32.add_assoc, show (1 : Int32) + (-1) = 0 from rfl, Int32.add_zero]
theorem ps_s1 {n : Nat} (h : 0 < n) : nI n - 1 = nI (n - 1) := by
  obtain ⟨m, rfl⟩ : ∃ m, n = m + 1 := ⟨n - 1, by omega⟩
  exact nI_pred m
theorem ps_a1 {n : Nat} (h : 0 < n) : nI n + (-1) = nI (n - 1) := by
  obtain ⟨m, rfl⟩ : ∃ m, n = m + 1 := ⟨n - 1, by omega⟩
  exact ps_m1 m
theorem ps_le0 {a : Nat} (h : a ≤ 200) : nI a ≤ 0 ↔ a = 0 := by
  rw [← nI_0, nI_leI (by omega) (by omega)]; omega
theorem ps_eq0 {a : Nat} (h : a ≤ 200) : nI a = 0 ↔ a = 0 := by
  rw [← nI_0, nI_eq (by omega) (by omega)]
theorem ps_vb0 : vp_nar .boolean 0 = 0 := by decide
theorem ps_vb1 : vp_nar .boolean 1 = 1 := by decide
theorem ps_nb0 : narrow .boolean (.int 0) = .int 0 := rfl
theorem ps_nb1 : narrow .boolean (.int 1) = .int 1 := rfl
/-- is the innermost group of the stack flat? -/
def ps_fl (F : Nat → Int32) : List Nat → Int32
  | [] => 0
  | o :: _ => if F o = 0 then 0 else 1
theorem ps_fl01 (F : Nat → Int32) : ∀ l : List Nat, ps_fl F l = 0 ∨ ps_fl F l = 1
  | [] => Or.inl rfl
  | o :: _ => by
    by_cases h : F o = 0
    · exact Or.inl (if_pos h)
    · exact Or.inr (if_neg h)
/-- the reach, from piece i on, d pieces ahead, the group's end at c -/
def ps_rc (s L : Nat → Int32) (c : Nat) : Nat → Nat → Int32 → Int32
  | 0, _, m => m
  | d + 1, i, m => if s i = 1 ∧ c < i then m else ps_rc s L c d (i + 1) (m + L i)
theorem ps_rc1 {s L : Nat → Int32} {c d i : Nat} {m : Int32} (h : s i = 1) (hc : c < i) : ps_rc s L c (d + 1) i m = m := by
  rw [ps_rc, if_pos ⟨h, hc⟩]
theorem ps_rc2 {s L : Nat → Int32} {c d i : Nat} {m : Int32} (h : ¬ s i = 1) : ps_rc s L c (d + 1) i m = ps_rc s L c d (i + 1) (m + L i) := by
  rw [ps_rc, if_neg (fun z => h z.1)]
theorem ps_rc3 {s L : Nat → Int32} {c d i : Nat} {m : Int32} (h : i ≤ c) : ps_rc s L c (d + 1) i m = ps_rc s L c d (i + 1) (m + L i) := by
  rw [ps_rc, if_neg (fun z => absurd z.2 (by omega))]
/-- does the group that begins at i become flat, the column there being c? -/
def ps_bf (P : Nat) (s L C F : Nat → Int32) (w : Int32) (i : Nat) (c : Int32) : Int32 :=
  if ps_fl F (ps_st s i) = 0 then (if w < c + ps_rc s L (C i).toNatClampNeg (P - (i + 1)) (i + 1) 0 then 0 else 1) else 1
theorem ps_bf01 (P : Nat) (s L C F : Nat → Int32) (w : Int32) (i : Nat) (c : Int32) : vp_nar .boolean (ps_bf P s L C F w i c) = ps_bf P s L C F w i c := by
  unfold ps_bf
  split
  · split
    · exact ps_vb0
    · exact ps_vb1
  · exact ps_vb1
/-- row, column, greatest column, rows, columns, flats -/
abbrev ps_T : Type := Int32 × Int32 × Int32 × (Nat → Int32) × (Nat → Int32) × (Nat → Int32)
def ps_gr (a b : Int32) : Int32 := if b ≤ a then a else b
def ps_stp (P : Nat) (s L C M : Nat → Int32) (w : Int32) (i : Nat) (x : ps_T) : ps_T :=
  match x with
  | (r, c, m, R, Q, F) =>
    if s i = 2 then (r, c, ps_gr m c, upd R i r, upd Q i c, upd F i (ps_bf P s L C F w i c))
    else if s i = 1 ∧ ps_fl F (ps_st s i) = 0 then (r + 1, ps_mi M (ps_st s i), ps_gr m (ps_mi M (ps_st s i)), upd R i r, upd Q i c, F)
    else (r, c + L i, ps_gr m (c + L i), upd R i r, upd Q i c, F)
theorem ps_stpO {P : Nat} {s L C M R Q F : Nat → Int32} {w r c m : Int32} {i : Nat} (h : s i = 2) : ps_stp P s L C M w i (r, c, m, R, Q, F) = (r, c, ps_gr m c, upd R i r, upd Q i c, upd F i (ps_bf P s L C F w i c)) := by
  show (if s i = 2 then _ else _) = _
  rw [if_pos h]
theorem ps_stpB {P : Nat} {s L C M R Q F : Nat → Int32} {w r c m : Int32} {i : Nat} (h : s i = 1) (hf : ps_fl F (ps_st s i) = 0) : ps_stp P s L C M w i (r, c, m, R, Q, F) = (r + 1, ps_mi M (ps_st s i), ps_gr m (ps_mi M (ps_st s i)), upd R i r, upd Q i c, F) := by
  show (if s i = 2 then _ else _) = _
  rw [if_neg (by rw [h]; decide), if_pos ⟨h, hf⟩]
theorem ps_stpN {P : Nat} {s L C M R Q F : Nat → Int32} {w r c m : Int32} {i : Nat} (h2 : ¬ s i = 2) (h : s i = 1 → ¬ ps_fl F (ps_st s i) = 0) : ps_stp P s L C M w i (r, c, m, R, Q, F) = (r, c + L i, ps_gr m (c + L i), upd R i r, upd Q i c, F) := by
  show (if s i = 2 then _ else _) = _
  rw [if_neg h2, if_neg (fun z => h z.1 z.2)]
/-- d pieces from piece i on -/
def ps_go (P : Nat) (s L C M : Nat → Int32) (w : Int32) : Nat → Nat → ps_T → ps_T
  | 0, _, x => x
  | d + 1, i, x => ps_go P s L C M w d (i + 1) (ps_stp P s L C M w i x)
/-- the whole laying out -/
def ps_ly (P : Nat) (s L C M : Nat → Int32) (w : Int32) (R Q F : Nat → Int32) : ps_T := ps_go P s L C M w P 0 (0, 0, 0, R, Q, F)
end PSB
