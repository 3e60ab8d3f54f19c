section
section PSA
/-! A: the pure picture: pieces, the stack of groups without an end, their ends -/
theorem ps_us {f : Nat → Int32} {k : Nat} {x : Int32} : upd f k x k = x := if_pos rfl
theorem ps_un {f : Nat → Int32} {k j : Nat} {x : Int32} (h : j ≠ k) : upd f k x j = f j := if_neg h
theorem ps_ul {f : Nat → Int32} {k j : Nat} {x : Int32} (h : j < k) : upd f k x j = f j := if_neg (by omega)
/-- the begun groups without an end among the pieces before i, the innermost first -/
def ps_st (s : Nat → Int32) : Nat → List Nat
  | 0 => []
  | i + 1 => if s i = 2 then i :: ps_st s i else if s i = 3 then (ps_st s i).tail else ps_st s i
theorem ps_st2 {s : Nat → Int32} {i : Nat} (h : s i = 2) : ps_st s (i + 1) = i :: ps_st s i := by
  rw [ps_st, if_pos h]
theorem ps_st3 {s : Nat → Int32} {i : Nat} (h : s i = 3) : ps_st s (i + 1) = (ps_st s i).tail := by
  rw [ps_st, if_neg (by rw [h]; decide), if_pos h]
theorem ps_stn {s : Nat → Int32} {i : Nat} (h2 : ¬ s i = 2) (h3 : ¬ s i = 3) : ps_st s (i + 1) = ps_st s i := by
  rw [ps_st, if_neg h2, if_neg h3]
theorem ps_congr {s s' : Nat → Int32} : ∀ i : Nat, (∀ j, j < i → s' j = s j) → ps_st s' i = ps_st s i := by
  intro i
  induction i with
  | zero => intro _; rfl
  | succ i ih =>
    intro h
    rw [ps_st, ps_st, h i (by omega), ih (fun j hj => h j (by omega))]
theorem ps_mem {s : Nat → Int32} : ∀ i o : Nat, o ∈ ps_st s i → o < i ∧ s o = 2 := by
  intro i
  induction i with
  | zero => intro o h; rw [ps_st] at h; exact nomatch h
  | succ i ih =>
    intro o h
    by_cases h2 : s i = 2
    · rw [ps_st2 h2] at h
      cases List.mem_cons.mp h with
      | inl e => subst e; exact ⟨by omega, h2⟩
      | inr m => exact ⟨by have := (ih o m).1; omega, (ih o m).2⟩
    · by_cases h3 : s i = 3
      · rw [ps_st3 h3] at h
        have m := List.mem_of_mem_tail h
        exact ⟨by have := (ih o m).1; omega, (ih o m).2⟩
      · rw [ps_stn h2 h3] at h
        exact ⟨by have := (ih o h).1; omega, (ih o h).2⟩
theorem ps_len {s : Nat → Int32} : ∀ i : Nat, (ps_st s i).length ≤ i := by
  intro i
  induction i with
  | zero => exact Nat.le_refl _
  | succ i ih =>
    by_cases h2 : s i = 2
    · rw [ps_st2 h2, List.length_cons]; omega
    · by_cases h3 : s i = 3
      · rw [ps_st3 h3, List.length_tail]; omega
      · rw [ps_stn h2 h3]; omega
theorem ps_back {s : Nat → Int32} {i o : Nat} (hi : o < i) (h : o ∈ ps_st s (i + 1)) : o ∈ ps_st s i := by
  by_cases h2 : s i = 2
  · rw [ps_st2 h2] at h
    cases List.mem_cons.mp h with
    | inl e => omega
    | inr m => exact m
  · by_cases h3 : s i = 3
    · rw [ps_st3 h3] at h
      exact List.mem_of_mem_tail h
    · rw [ps_stn h2 h3] at h
      exact h
theorem ps_M {s : Nat → Int32} {o : Nat} : ∀ d i j : Nat, i + d = j → o < i → o ∈ ps_st s j → o ∈ ps_st s i := by
  intro d
  induction d with
  | zero => intro i j e _ h; rw [show i = j from e]; exact h
  | succ d ih =>
    intro i j e ho h
    have e' : j = (i + d) + 1 := by omega
    rw [e'] at h
    exact ih i (i + d) rfl ho (ps_back (by omega) h)
theorem ps_A {s : Nat → Int32} : ∀ n i o : Nat, ∀ t : List Nat, i < n → ps_st s i = o :: t → t = ps_st s o := by
  intro n
  induction n with
  | zero => intro i o t h; omega
  | succ n ih =>
    intro i o t hi h
    cases i with
    | zero => rw [ps_st] at h; exact nomatch h
    | succ i =>
      by_cases h2 : s i = 2
      · rw [ps_st2 h2] at h
        injection h with e1 e2
        rw [← e1, e2]
      · by_cases h3 : s i = 3
        · rw [ps_st3 h3] at h
          cases hs : ps_st s i with
          | nil => rw [hs] at h; exact nomatch h
          | cons x t' =>
            rw [hs, List.tail_cons] at h
            have hx := ih i x t' (by omega) hs
            have hm := (ps_mem i x (by rw [hs]; exact List.mem_cons.mpr (Or.inl rfl))).1
            rw [h] at hx
            exact ih x o t (by omega) hx.symm
        · rw [ps_stn h2 h3] at h
          exact ih i o t (by omega) h
theorem ps_A' {s : Nat → Int32} {i o : Nat} {t : List Nat} (h : ps_st s i = o :: t) : t = ps_st s o ∧ o < i ∧ s o = 2 := by
  have hm := ps_mem (s := s) i o (by rw [h]; exact List.mem_cons.mpr (Or.inl rfl))
  exact ⟨ps_A (i + 1) i o t (by omega) h, hm.1, hm.2⟩
theorem ps_B {s : Nat → Int32} {o : Nat} : ∀ n i : Nat, i < n → o ∈ ps_st s i → (ps_st s o).length < (ps_st s i).length := by
  intro n
  induction n with
  | zero => intro i h; omega
  | succ n ih =>
    intro i hi h
    cases hs : ps_st s i with
    | nil => rw [hs] at h; exact nomatch h
    | cons x t =>
      obtain ⟨ht, hx, _⟩ := ps_A' hs
      rw [hs] at h
      rw [List.length_cons, ht]
      cases List.mem_cons.mp h with
      | inl e => rw [e]; omega
      | inr m =>
        rw [ht] at m
        have := ih x (by omega) m
        omega
def ps_hd : List Nat → Int32
  | [] => -1
  | o :: _ => nI o
def ps_mi (M : Nat → Int32) : List Nat → Int32
  | [] => 0
  | o :: _ => M o
theorem ps_mim {s M M' : Nat → Int32} {i : Nat} (h : ∀ j, j < i → M' j = M j) : ps_mi M' (ps_st s i) = ps_mi M (ps_st s i) := by
  cases hs : ps_st s i with
  | nil => rfl
  | cons o t => exact h o (ps_A' hs).2.1
/-- piece i as both sides keep it -/
def ps_pc (s g K L G M : Nat → Int32) (i : Nat) : Prop :=
  (s i = 0 ∧ K i = 1 ∧ L i = g i) ∨ (s i = 1 ∧ K i = 2 ∧ L i = 1 ∧ G i = ps_hd (ps_st s i)) ∨
  (s i = 2 ∧ K i = 3 ∧ L i = 0 ∧ G i = ps_hd (ps_st s i) ∧ M i = ps_mi M (ps_st s i) + g i) ∨
  (s i = 3 ∧ K i = 4 ∧ L i = 0 ∧ ps_st s i ≠ [])
/-- the end of the group that begins at piece o -/
def ps_cl (P : Nat) (s C : Nat → Int32) (o : Nat) : Prop :=
  s o = 2 → (o ∈ ps_st s P ∧ C o = 60) ∨ (¬ o ∈ ps_st s P ∧ ∃ c : Nat, o < c ∧ c < P ∧ C o = nI c ∧ s c = 3 ∧ ∃ t : List Nat, ps_st s c = o :: t)
def ps_D (P : Nat) (s g K L G C M : Nat → Int32) : Prop :=
  (∀ i, i < P → ps_pc s g K L G M i) ∧ (∀ o, o < P → ps_cl P s C o)
theorem ps_pcm {P : Nat} {s g K L G M s' g' K' L' G' M' : Nat → Int32} (hs : ∀ j, j < P → s' j = s j) (hg : ∀ j, j < P → g' j = g j) (hK : ∀ j, j < P → K' j = K j) (hL : ∀ j, j < P → L' j = L j) (hG : ∀ j, j < P → G' j = G j) (hM : ∀ j, j < P → M' j = M j) {i : Nat} (hi : i < P) (h : ps_pc s g K L G M i) : ps_pc s' g' K' L' G' M' i := by
  have e : ps_st s' i = ps_st s i := ps_congr i (fun j hj => hs j (by omega))
  have em : ps_mi M' (ps_st s i) = ps_mi M (ps_st s i) := ps_mim (fun j hj => hM j (by omega))
  unfold ps_pc at h ⊢
  rw [hs i hi, hg i hi, hK i hi, hL i hi, hG i hi, hM i hi, e, em]
  exact h
theorem ps_clm {P o : Nat} {s s' C C' : Nat → Int32} (hs : ∀ j, j < P → s' j = s j) (ho : o < P) (hC : C' o = C o) (hm : o ∈ ps_st s' (P + 1) ↔ o ∈ ps_st s P) (h : ps_cl P s C o) : ps_cl (P + 1) s' C' o := by
  intro h2
  rw [hs o ho] at h2
  rcases h h2 with ⟨m, e⟩ | ⟨m, c, a, b, e, s3, t, et⟩
  · exact Or.inl ⟨hm.mpr m, by rw [hC, e]⟩
  · refine Or.inr ⟨fun z => m (hm.mp z), c, a, by omega, by rw [hC, e], by rw [hs c b]; exact s3, t, ?_⟩
    rw [ps_congr c (fun j hj => hs j (by omega))]
    exact et
theorem ps_uP {s : Nat → Int32} {P : Nat} {x : Int32} : ps_st (upd s P x) P = ps_st s P := ps_congr P (fun _ hj => ps_ul hj)
theorem ps_uW {s : Nat → Int32} {P : Nat} {x : Int32} (h2 : ¬ x = 2) (h3 : ¬ x = 3) : ps_st (upd s P x) (P + 1) = ps_st s P := by
  rw [ps_stn (by rw [ps_us]; exact h2) (by rw [ps_us]; exact h3), ps_uP]
theorem ps_uO {s : Nat → Int32} {P : Nat} : ps_st (upd s P 2) (P + 1) = P :: ps_st s P := by
  rw [ps_st2 ps_us, ps_uP]
theorem ps_uC {s : Nat → Int32} {P : Nat} : ps_st (upd s P 3) (P + 1) = (ps_st s P).tail := by
  rw [ps_st3 ps_us, ps_uP]
theorem ps_addW {P : Nat} {s g K L G C M : Nat → Int32} (D : ps_D P s g K L G C M) (x y : Int32) : ps_D (P + 1) (upd s P 0) (upd g P x) (upd K P 1) (upd L P x) (upd G P y) C M := by
  refine ⟨fun i hi => ?_, fun o ho => ?_⟩
  · by_cases e : i = P
    · subst e
      exact Or.inl ⟨ps_us, ps_us, by rw [ps_us, ps_us]⟩
    · have hi' : i < P := by omega
      exact ps_pcm (fun _ h => ps_ul h) (fun _ h => ps_ul h) (fun _ h => ps_ul h) (fun _ h => ps_ul h) (fun _ h => ps_ul h) (fun _ _ => rfl) hi' (D.1 i hi')
  · by_cases e : o = P
    · subst e
      intro h
      rw [ps_us] at h
      exact absurd h (by decide)
    · have ho' : o < P := by omega
      exact ps_clm (fun _ h => ps_ul h) ho' rfl (by rw [ps_uW (by decide) (by decide)]) (D.2 o ho')
theorem ps_addB {P : Nat} {s g K L G C M : Nat → Int32} (D : ps_D P s g K L G C M) (x : Int32) : ps_D (P + 1) (upd s P 1) (upd g P x) (upd K P 2) (upd L P 1) (upd G P (ps_hd (ps_st s P))) C M := by
  refine ⟨fun i hi => ?_, fun o ho => ?_⟩
  · by_cases e : i = P
    · subst e
      exact Or.inr (Or.inl ⟨ps_us, ps_us, ps_us, by rw [ps_us, ps_uP]⟩)
    · have hi' : i < P := by omega
      exact ps_pcm (fun _ h => ps_ul h) (fun _ h => ps_ul h) (fun _ h => ps_ul h) (fun _ h => ps_ul h) (fun _ h => ps_ul h) (fun _ _ => rfl) hi' (D.1 i hi')
  · by_cases e : o = P
    · subst e
      intro h
      rw [ps_us] at h
      exact absurd h (by decide)
    · have ho' : o < P := by omega
      exact ps_clm (fun _ h => ps_ul h) ho' rfl (by rw [ps_uW (by decide) (by decide)]) (D.2 o ho')
theorem ps_addO {P : Nat} {s g K L G C M : Nat → Int32} (D : ps_D P s g K L G C M) (x : Int32) : ps_D (P + 1) (upd s P 2) (upd g P x) (upd K P 3) (upd L P 0) (upd G P (ps_hd (ps_st s P))) (upd C P 60) (upd M P (ps_mi M (ps_st s P) + x)) := by
  refine ⟨fun i hi => ?_, fun o ho => ?_⟩
  · by_cases e : i = P
    · subst e
      refine Or.inr (Or.inr (Or.inl ⟨ps_us, ps_us, ps_us, by rw [ps_us, ps_uP], ?_⟩))
      rw [ps_us, ps_us, ps_uP, ps_mim (fun _ h => ps_ul h)]
    · have hi' : i < P := by omega
      exact ps_pcm (fun _ h => ps_ul h) (fun _ h => ps_ul h) (fun _ h => ps_ul h) (fun _ h => ps_ul h) (fun _ h => ps_ul h) (fun _ h => ps_ul h) hi' (D.1 i hi')
  · by_cases e : o = P
    · subst e
      intro _
      exact Or.inl ⟨by rw [ps_uO]; exact List.mem_cons.mpr (Or.inl rfl), ps_us⟩
    · have ho' : o < P := by omega
      refine ps_clm (fun _ h => ps_ul h) ho' (ps_un e) ?_ (D.2 o ho')
      rw [ps_uO]
      exact ⟨fun m => (List.mem_cons.mp m).resolve_left e, fun m => List.mem_cons.mpr (Or.inr m)⟩
theorem ps_addC {P h : Nat} {t : List Nat} {s g K L G C M : Nat → Int32} (D : ps_D P s g K L G C M) (hst : ps_st s P = h :: t) (x y : Int32) : ps_D (P + 1) (upd s P 3) (upd g P x) (upd K P 4) (upd L P 0) (upd G P y) (upd C h (nI P)) M := by
  obtain ⟨ht, hh, _⟩ := ps_A' hst
  have hu : ps_st (upd s P 3) (P + 1) = t := by rw [ps_uC, hst]; rfl
  refine ⟨fun i hi => ?_, fun o ho => ?_⟩
  · by_cases e : i = P
    · subst e
      exact Or.inr (Or.inr (Or.inr ⟨ps_us, ps_us, ps_us, by rw [ps_uP, hst]; exact fun z => nomatch z⟩))
    · have hi' : i < P := by omega
      exact ps_pcm (fun _ h => ps_ul h) (fun _ h => ps_ul h) (fun _ h => ps_ul h) (fun _ h => ps_ul h) (fun _ h => ps_ul h) (fun _ _ => rfl) hi' (D.1 i hi')
  · by_cases e : o = P
    · subst e
      intro h
      rw [ps_us] at h
      exact absurd h (by decide)
    · have ho' : o < P := by omega
      by_cases eh : o = h
      · subst eh
        intro _
        refine Or.inr ⟨?_, P, ho', by omega, ps_us, ps_us, t, by rw [ps_uP]; exact hst⟩
        rw [hu, ht]
        intro m
        have := (ps_mem o o m).1
        omega
      · refine ps_clm (fun _ h => ps_ul h) ho' (ps_un eh) ?_ (D.2 o ho')
        rw [hu, hst]
        exact ⟨fun m => List.mem_cons.mpr (Or.inr m), fun m => (List.mem_cons.mp m).resolve_left eh⟩
/-- what the reach of the group that begins at piece o needs -/
theorem ps_clo {P o : Nat} {s C : Nat → Int32} (hP : P ≤ 60) (ho : o < P) (h : ps_cl P s C o) (h2 : s o = 2) : ∃ c : Nat, C o = nI c ∧ c ≤ 60 ∧ o < c ∧ (∀ i, o < i → i ≤ c → i ≤ P → o ∈ ps_st s i) ∧ (c < P → s c = 3 ∧ (ps_st s c).length = (ps_st s o).length + 1) := by
  rcases h h2 with ⟨m, e⟩ | ⟨_, c, a, b, e, s3, t, et⟩
  · exact ⟨60, e, by omega, by omega, fun i hi _ hP' => ps_M (P - i) i P (by omega) hi m, fun h => by omega⟩
  · refine ⟨c, e, by omega, a, fun i hi hc _ => ps_M (c - i) i c (by omega) hi (by rw [et]; exact List.mem_cons.mpr (Or.inl rfl)), fun _ => ⟨s3, ?_⟩⟩
    rw [et, List.length_cons, (ps_A' et).1]
/-- the stacks of flats and margins over the stack of begun groups -/
def ps_al (F M fl mr : Nat → Int32) : List Nat → Prop
  | [] => True
  | o :: t => fl t.length = F o ∧ mr t.length = M o ∧ ps_al F M fl mr t
theorem ps_alm {F M fl mr F' fl' mr' : Nat → Int32} : ∀ l : List Nat, (∀ o, o ∈ l → F' o = F o) → (∀ j, j < l.length → fl' j = fl j ∧ mr' j = mr j) → ps_al F M fl mr l → ps_al F' M fl' mr' l := by
  intro l
  induction l with
  | nil => intro _ _ _; trivial
  | cons o t ih =>
    intro hF hj h
    have hl : t.length < (o :: t).length := by rw [List.length_cons]; omega
    refine ⟨?_, ?_, ih (fun x hx => hF x (List.mem_cons.mpr (Or.inr hx))) (fun j h' => hj j (by omega)) h.2.2⟩
    · rw [(hj _ hl).1, hF o (List.mem_cons.mpr (Or.inl rfl))]; exact h.1
    · rw [(hj _ hl).2]; exact h.2.1
theorem ps_alO {F M fl mr s : Nat → Int32} {i : Nat} (b m : Int32) (hm : M i = m) (h : ps_al F M fl mr (ps_st s i)) : ps_al (upd F i b) M (upd fl (ps_st s i).length b) (upd mr (ps_st s i).length m) (i :: ps_st s i) := by
  refine ⟨by rw [ps_us, ps_us], by rw [ps_us, hm], ps_alm _ (fun o ho => ps_ul (ps_mem i o ho).1) (fun j hj => ⟨ps_ul hj, ps_ul hj⟩) h⟩
theorem ps_alC {F M fl mr : Nat → Int32} : ∀ l : List Nat, ps_al F M fl mr l → ps_al F M fl mr l.tail
  | [], _ => trivial
  | _ :: _, h => h.2.2
end PSA
end
section
section PSB
/-! B: numbers; the reach and the laying out as pure functions -/
theorem ps_in {n : Nat} (h : n < 60) : vp_in (nI n) 60 := vp_in_nI h (by omega)
theorem ps_ck {n : Nat} (h : n ≤ 200) : (nI n).toNatClampNeg = n := nI_clamp (by omega)
theorem ps_ne1 {a : Nat} (h : a ≤ 200) : ¬ nI a = -1 := by
  intro e
  have h1 := nI_pos (n := a) (by omega)
  rw [e] at h1
  exact h1 (by decide)
theorem ps_m1 (n : Nat) : nI (n + 1) + (-1) = nI n := by
  rw [← nI_1, Int32.add_assoc, show (1 : Int32) + (-1) = 0 from rfl, Int32.add_zero]
theorem ps_s1 {n : Nat} (h : 0 < n) : nI n - 1 = nI (n - 1) := by
  obtain ⟨m, rfl⟩ : ∃ m, n = m + 1 := ⟨n - 1, by omega⟩
  exact nI_pred m
theorem ps_a1 {n : Nat} (h : 0 < n) : nI n + (-1) = nI (n - 1) := by
  obtain ⟨m, rfl⟩ : ∃ m, n = m + 1 := ⟨n - 1, by omega⟩
  exact ps_m1 m
theorem ps_le0 {a : Nat} (h : a ≤ 200) : nI a ≤ 0 ↔ a = 0 := by
  rw [← nI_0, nI_leI (by omega) (by omega)]; omega
theorem ps_eq0 {a : Nat} (h : a ≤ 200) : nI a = 0 ↔ a = 0 := by
  rw [← nI_0, nI_eq (by omega) (by omega)]
theorem ps_vb0 : vp_nar .boolean 0 = 0 := by decide
theorem ps_vb1 : vp_nar .boolean 1 = 1 := by decide
theorem ps_nb0 : narrow .boolean (.int 0) = .int 0 := rfl
theorem ps_nb1 : narrow .boolean (.int 1) = .int 1 := rfl
/-- is the innermost group of the stack flat? -/
def ps_fl (F : Nat → Int32) : List Nat → Int32
  | [] => 0
  | o :: _ => if F o = 0 then 0 else 1
theorem ps_fl01 (F : Nat → Int32) : ∀ l : List Nat, ps_fl F l = 0 ∨ ps_fl F l = 1
  | [] => Or.inl rfl
  | o :: _ => by
    by_cases h : F o = 0
    · exact Or.inl (if_pos h)
    · exact Or.inr (if_neg h)
/-- the reach, from piece i on, d pieces ahead, the group's end at c -/
def ps_rc (s L : Nat → Int32) (c : Nat) : Nat → Nat → Int32 → Int32
  | 0, _, m => m
  | d + 1, i, m => if s i = 1 ∧ c < i then m else ps_rc s L c d (i + 1) (m + L i)
theorem ps_rc1 {s L : Nat → Int32} {c d i : Nat} {m : Int32} (h : s i = 1) (hc : c < i) : ps_rc s L c (d + 1) i m = m := by
  rw [ps_rc, if_pos ⟨h, hc⟩]
theorem ps_rc2 {s L : Nat → Int32} {c d i : Nat} {m : Int32} (h : ¬ s i = 1) : ps_rc s L c (d + 1) i m = ps_rc s L c d (i + 1) (m + L i) := by
  rw [ps_rc, if_neg (fun z => h z.1)]
theorem ps_rc3 {s L : Nat → Int32} {c d i : Nat} {m : Int32} (h : i ≤ c) : ps_rc s L c (d + 1) i m = ps_rc s L c d (i + 1) (m + L i) := by
  rw [ps_rc, if_neg (fun z => absurd z.2 (by omega))]
/-- does the group that begins at i become flat, the column there being c? -/
def ps_bf (P : Nat) (s L C F : Nat → Int32) (w : Int32) (i : Nat) (c : Int32) : Int32 :=
  if ps_fl F (ps_st s i) = 0 then (if w < c + ps_rc s L (C i).toNatClampNeg (P - (i + 1)) (i + 1) 0 then 0 else 1) else 1
theorem ps_bf01 (P : Nat) (s L C F : Nat → Int32) (w : Int32) (i : Nat) (c : Int32) : vp_nar .boolean (ps_bf P s L C F w i c) = ps_bf P s L C F w i c := by
  unfold ps_bf
  split
  · split
    · exact ps_vb0
    · exact ps_vb1
  · exact ps_vb1
/-- row, column, greatest column, rows, columns, flats -/
abbrev ps_T : Type := Int32 × Int32 × Int32 × (Nat → Int32) × (Nat → Int32) × (Nat → Int32)
def ps_gr (a b : Int32) : Int32 := if b ≤ a then a else b
def ps_stp (P : Nat) (s L C M : Nat → Int32) (w : Int32) (i : Nat) (x : ps_T) : ps_T :=
  match x with
  | (r, c, m, R, Q, F) =>
    if s i = 2 then (r, c, ps_gr m c, upd R i r, upd Q i c, upd F i (ps_bf P s L C F w i c))
    else if s i = 1 ∧ ps_fl F (ps_st s i) = 0 then (r + 1, ps_mi M (ps_st s i), ps_gr m (ps_mi M (ps_st s i)), upd R i r, upd Q i c, F)
    else (r, c + L i, ps_gr m (c + L i), upd R i r, upd Q i c, F)
theorem ps_stpO {P : Nat} {s L C M R Q F : Nat → Int32} {w r c m : Int32} {i : Nat} (h : s i = 2) : ps_stp P s L C M w i (r, c, m, R, Q, F) = (r, c, ps_gr m c, upd R i r, upd Q i c, upd F i (ps_bf P s L C F w i c)) := by
  show (if s i = 2 then _ else _) = _
  rw [if_pos h]
theorem ps_stpB {P : Nat} {s L C M R Q F : Nat → Int32} {w r c m : Int32} {i : Nat} (h : s i = 1) (hf : ps_fl F (ps_st s i) = 0) : ps_stp P s L C M w i (r, c, m, R, Q, F) = (r + 1, ps_mi M (ps_st s i), ps_gr m (ps_mi M (ps_st s i)), upd R i r, upd Q i c, F) := by
  show (if s i = 2 then _ else _) = _
  rw [if_neg (by rw [h]; decide), if_pos ⟨h, hf⟩]
theorem ps_stpN {P : Nat} {s L C M R Q F : Nat → Int32} {w r c m : Int32} {i : Nat} (h2 : ¬ s i = 2) (h : s i = 1 → ¬ ps_fl F (ps_st s i) = 0) : ps_stp P s L C M w i (r, c, m, R, Q, F) = (r, c + L i, ps_gr m (c + L i), upd R i r, upd Q i c, F) := by
  show (if s i = 2 then _ else _) = _
  rw [if_neg h2, if_neg (fun z => h z.1 z.2)]
/-- d pieces from piece i on -/
def ps_go (P : Nat) (s L C M : Nat → Int32) (w : Int32) : Nat → Nat → ps_T → ps_T
  | 0, _, x => x
  | d + 1, i, x => ps_go P s L C M w d (i + 1) (ps_stp P s L C M w i x)
/-- the whole laying out -/
def ps_ly (P : Nat) (s L C M : Nat → Int32) (w : Int32) (R Q F : Nat → Int32) : ps_T := ps_go P s L C M w P 0 (0, 0, 0, R, Q, F)
end PSB
end
section
section PSC
/-! C: the component's own walks -/
variable {P : Nat} {inn unc cw r c m w : Int32} {s g K L G C M R Q F : Nat → Int32}
def ps_XS (P : Nat) (inn unc cw : Int32) (K L G C M : Nat → Int32) (x : ps_T) : SX := (nI P, inn, unc, cw, x.1, x.2.1, x.2.2.1, K, L, G, C, M, x.2.2.2.1, x.2.2.2.2.1, x.2.2.2.2.2)
theorem ps_xr {post : Int32 → Prop} {o e : Nat} (hP : P ≤ 60) (ho : o < 60) (hK : ∀ j, j < P → (K j = 2 ↔ s j = 1)) (hC : C o = nI e) (he : e ≤ 60) : ∀ (d i : Nat) (x : Int32), i + d = P → post (ps_rc s L e d i x) → wX_reach_6 post (nI o) (nI P) inn unc cw r c m K L G C M R Q F (d + 1) x (nI i) := by
  intro d
  induction d with
  | zero =>
    intro i x ei hp
    exact br_t (nI_le (by omega) (by omega)) hp
  | succ d ih =>
    intro i x ei hp
    have hi : i < P := by omega
    have ek : (nI i).toNatClampNeg = i := ps_ck (by omega)
    have eo : (nI o).toNatClampNeg = o := ps_ck (by omega)
    have nx : ps_rc s L e (d + 1) i x = ps_rc s L e d (i + 1) (x + L i) → wX_reach_37 post (wX_reach_6 post (nI o) (nI P) inn unc cw r c m K L G C M R Q F (d + 1)) (nI o) x (nI i) (nI P) inn unc cw r c m K L G C M R Q F := by
      intro h
      rw [h] at hp
      exact ⟨ps_in (by omega), nm_r (e' := x + L i) (by rw [ek]) (nm_r (nI_1 i) (ih (i + 1) (x + L i) (by omega) hp))⟩
    refine br_f (nI_ge hi (by omega)) ⟨ps_in (by omega), ?_⟩
    by_cases h1 : s i = 1
    · refine br_t (by rw [ek]; exact (hK i hi).mpr h1) ⟨ps_in ho, ?_⟩
      by_cases h2 : i ≤ e
      · exact br_t (by rw [eo, hC]; exact nI_le h2 (by omega)) (nx (ps_rc3 h2))
      · exact br_f (by rw [eo, hC]; exact nI_ge (by omega) (by omega)) (by rw [ps_rc1 h1 (by omega)] at hp; exact hp)
    · exact br_f (by rw [ek]; exact fun z => h1 ((hK i hi).mp z)) (nx (ps_rc2 h1))
theorem ps_K2 (D : ps_D P s g K L G C M) : ∀ j, j < P → (K j = 2 ↔ s j = 1) := by
  intro j hj
  rcases D.1 j hj with ⟨a, b, _⟩ | ⟨a, b, _⟩ | ⟨a, b, _⟩ | ⟨a, b, _⟩ <;> rw [a, b] <;> decide
theorem ps_K3 (D : ps_D P s g K L G C M) : ∀ j, j < P → (K j = 3 ↔ s j = 2) := by
  intro j hj
  rcases D.1 j hj with ⟨a, b, _⟩ | ⟨a, b, _⟩ | ⟨a, b, _⟩ | ⟨a, b, _⟩ <;> rw [a, b] <;> decide
theorem ps_xrc {post : Int32 → Prop} {i : Nat} (hP : P ≤ 60) (hi : i < P) (D : ps_D P s g K L G C M) (h2 : s i = 2) (hp : post (ps_rc s L (C i).toNatClampNeg (P - (i + 1)) (i + 1) 0)) : wpX_reach post (nI P, inn, unc, cw, r, c, m, K, L, G, C, M, R, Q, F) (nI i) := by
  obtain ⟨e, he, he6, _⟩ := ps_clo hP hi (D.2 i hi) h2
  rw [he, ps_ck (by omega)] at hp
  exact nm_r (nI_1 i) ⟨_, ps_xr hP (by omega) (ps_K2 D) he he6 (P - (i + 1)) (i + 1) 0 (by omega) hp⟩
theorem ps_xfi {post : Int32 → Prop} {a : Int32} {l : List Nat} (hl : ∀ o t, l = o :: t → o < 60) (hp : post (ps_fl F l)) : wpX_isFlatInside post (a, inn, unc, cw, r, c, m, K, L, G, C, M, R, Q, F) (ps_hd l) := by
  cases l with
  | nil => exact br_t rfl hp
  | cons o t =>
    have ho := hl o t rfl
    have eo : (ps_hd (o :: t)).toNatClampNeg = o := ps_ck (n := o) (by omega)
    refine br_f (ps_ne1 (by omega)) ⟨ps_in ho, ?_⟩
    by_cases h : F o = 0
    · exact br_t (by rw [eo]; exact h) (by rw [ps_fl, if_pos h] at hp; exact hp)
    · exact br_f (by rw [eo]; exact h) (by rw [ps_fl, if_neg h] at hp; exact hp)
theorem ps_xmi {post : Int32 → Prop} {a : Int32} {l : List Nat} (hl : ∀ o t, l = o :: t → o < 60) (hp : post (ps_mi M l)) : wpX_marginInside post (a, inn, unc, cw, r, c, m, K, L, G, C, M, R, Q, F) (ps_hd l) := by
  cases l with
  | nil => exact br_t rfl hp
  | cons o t =>
    have ho := hl o t rfl
    have eo : (ps_hd (o :: t)).toNatClampNeg = o := ps_ck (n := o) (by omega)
    refine br_f (ps_ne1 (by omega)) ⟨ps_in ho, ?_⟩
    rw [eo]
    exact hp
theorem ps_hl {i : Nat} (hi : i ≤ 60) : ∀ o t, ps_st s i = o :: t → o < 60 := by
  intro o t h
  have := (ps_A' h).2.1
  omega
theorem ps_xbf {post : Int32 → Prop} {i : Nat} (hP : P ≤ 60) (hi : i < P) (D : ps_D P s g K L G C M) (h2 : s i = 2) (hG : G i = ps_hd (ps_st s i)) (hp : post (ps_bf P s L C F w i c)) : wpX_becomesFlat post (nI P, inn, unc, cw, r, c, m, K, L, G, C, M, R, Q, F) (nI i) w := by
  have ek : (nI i).toNatClampNeg = i := ps_ck (by omega)
  refine ⟨ps_in (by omega), ?_⟩
  rw [ek, hG]
  refine ps_xfi (ps_hl (by omega)) ?_
  unfold ps_bf at hp
  by_cases hf : ps_fl F (ps_st s i) = 0
  · rw [if_pos hf] at hp
    refine br_t hf (ps_xrc hP hi D h2 (nm_e ?_))
    by_cases hw : w < c + ps_rc s L (C i).toNatClampNeg (P - (i + 1)) (i + 1) 0
    · rw [if_pos hw] at hp
      exact br_t hw hp
    · rw [if_neg hw] at hp
      exact br_f hw hp
  · rw [if_neg hf] at hp
    exact br_f hf hp
theorem ps_x107 {post : SX → Prop} {a : Int32} (hp : post (a, inn, unc, cw, r, c, ps_gr m c, K, L, G, C, M, R, Q, F)) : wX_place_107 post a inn unc cw r c m K L G C M R Q F := by
  unfold ps_gr at hp
  by_cases h : c ≤ m
  · rw [if_pos h] at hp
    exact br_t h hp
  · rw [if_neg h] at hp
    exact br_f h hp
theorem ps_x92 {post : SX → Prop} {a : Int32} {i : Nat} (hi : i < 60) (hp : post (a, inn, unc, cw, r, c + L i, ps_gr m (c + L i), K, L, G, C, M, R, Q, F)) : wX_place_92 post (nI i) a inn unc cw r c m K L G C M R Q F := by
  have ek : (nI i).toNatClampNeg = i := ps_ck (by omega)
  exact ⟨ps_in hi, nm_r (e' := c + L i) (by rw [ek]) (ps_x107 hp)⟩
theorem ps_xpl {post : SX → Prop} {i : Nat} (hP : P ≤ 60) (hi : i < P) (D : ps_D P s g K L G C M) (hp : post (ps_XS P inn unc cw K L G C M (ps_stp P s L C M w i (r, c, m, R, Q, F)))) : wpX_place post (nI P, inn, unc, cw, r, c, m, K, L, G, C, M, R, Q, F) (nI i) w := by
  have ek : (nI i).toNatClampNeg = i := ps_ck (by omega)
  have h6 : i < 60 := by omega
  refine ⟨ps_in h6, nm_r (e' := upd R i r) (by rw [ek]) ⟨ps_in h6, nm_r (e' := upd Q i c) (by rw [ek]) ⟨ps_in h6, ?_⟩⟩⟩
  rcases D.1 i hi with ⟨hs, hK, hL⟩ | ⟨hs, hK, hL, hG⟩ | ⟨hs, hK, hL, hG, hM⟩ | ⟨hs, hK, hL, hn⟩
  · rw [ps_stpN (by rw [hs]; decide) (fun z => absurd (hs.symm.trans z) (by decide))] at hp
    exact br_f (by rw [ek, hK]; decide) ⟨ps_in h6, br_f (by rw [ek, hK]; decide) (ps_x92 h6 hp)⟩
  · refine br_f (by rw [ek, hK]; decide) ⟨ps_in h6, br_t (by rw [ek, hK]) ⟨ps_in h6, ?_⟩⟩
    rw [ek, hG]
    refine ps_xfi (ps_hl (by omega)) ?_
    by_cases hf : ps_fl F (ps_st s i) = 0
    · rw [ps_stpB hs hf] at hp
      exact br_t hf (nm_e ⟨ps_in h6, ps_xmi (ps_hl (by omega)) (ps_x107 hp)⟩)
    · rw [ps_stpN (by rw [hs]; decide) (fun _ => hf)] at hp
      exact br_f hf (ps_x92 h6 hp)
  · rw [ps_stpO hs] at hp
    refine br_t (by rw [ek, hK]) (ps_xbf hP hi D hs hG ⟨ps_in h6, nm_r (e' := upd F i (ps_bf P s L C F w i c)) (by rw [ek, ps_bf01]) ⟨ps_in h6, br_f (by rw [ek, hK]; decide) (ps_x92 h6 ?_)⟩⟩)
    rw [hL, Int32.add_zero]
    exact hp
  · rw [ps_stpN (by rw [hs]; decide) (fun z => absurd (hs.symm.trans z) (by decide))] at hp
    exact br_f (by rw [ek, hK]; decide) ⟨ps_in h6, br_f (by rw [ek, hK]; decide) (ps_x92 h6 hp)⟩
theorem ps_xgo {post : SX → Prop} (hP : P ≤ 60) (D : ps_D P s g K L G C M) : ∀ (d i : Nat) (x : ps_T), i + d = P → post (ps_XS P inn unc cw K L G C M (ps_go P s L C M w d i x)) → wX_layOut_17 post w (d + 1) (nI i) (nI P) inn unc cw x.1 x.2.1 x.2.2.1 K L G C M x.2.2.2.1 x.2.2.2.2.1 x.2.2.2.2.2 := by
  intro d
  induction d with
  | zero =>
    intro i x ei hp
    exact br_t (nI_le (by omega) (by omega)) hp
  | succ d ih =>
    intro i x ei hp
    have hi : i < P := by omega
    exact br_f (nI_ge hi (by omega)) (ps_xpl hP hi D (nm_r (nI_1 i) (ih (i + 1) (ps_stp P s L C M w i x) (by omega) hp)))
theorem ps_xly {post : SX → Prop} (hP : P ≤ 60) (D : ps_D P s g K L G C M) (hp : post (ps_XS P inn unc cw K L G C M (ps_ly P s L C M w R Q F))) : wpX_layOut post (nI P, inn, unc, cw, r, c, m, K, L, G, C, M, R, Q, F) w :=
  ⟨P + 1, ps_xgo hP D P 0 (0, 0, 0, R, Q, F) (by omega) hp⟩
theorem ps_xadd {post : Int32 → SX → Prop} {k l : Int32} (hP : P < 60) (hp : post (nI (P + 1)) (nI (P + 1), inn, unc, cw, r, c, m, upd K P k, upd L P l, upd G P inn, C, M, R, Q, F)) : wpX_add post (nI P, inn, unc, cw, r, c, m, K, L, G, C, M, R, Q, F) k l := by
  have ek : (nI P).toNatClampNeg = P := ps_ck (by omega)
  exact ⟨ps_in hP, nm_r (e' := upd K P k) (by rw [ek]) ⟨ps_in hP, nm_r (e' := upd L P l) (by rw [ek]) ⟨ps_in hP, nm_r (e' := upd G P inn) (by rw [ek]) (nm_r (nI_1 P) hp)⟩⟩⟩
theorem ps_xnf {post : Int32 → Prop} (hP : P < 60) (hp : post 0) : wpX_isFull post (nI P, inn, unc, cw, r, c, m, K, L, G, C, M, R, Q, F) := br_t (nI_lt (b := 60) hP (by decide)) hp
theorem ps_xf {post : Int32 → Prop} (hP : 60 ≤ P) (h2 : P ≤ 60) (hp : post 1) : wpX_isFull post (nI P, inn, unc, cw, r, c, m, K, L, G, C, M, R, Q, F) := br_f (nI_nlt (b := 60) hP (by omega)) hp
end PSC
end
section
section PSD
/-! D: the reference's own walks -/
variable {P : Nat} {mo dd lr gr w c m : Int32} {s g K L G C M R Q F fl mr : Nat → Int32}
theorem ps_ne3 (D : ps_D P s g K L G C M) : ∀ j, j < P → s j = 3 → 0 < (ps_st s j).length := by
  intro j hj h3
  rcases D.1 j hj with ⟨a, _⟩ | ⟨a, _⟩ | ⟨a, _⟩ | ⟨_, _, _, b⟩
  · rw [h3] at a; exact absurd a (by decide)
  · rw [h3] at a; exact absurd a (by decide)
  · rw [h3] at a; exact absurd a (by decide)
  · exact List.length_pos_iff.mpr b
theorem ps_yw {post : Int32 → Prop} (hP : P ≤ 60) (D : ps_D P s g K L G C M) (hp : post (nI (ps_st s P).length)) : ∀ d i : Nat, i + d = P → wY_waiting_4 post mo (nI P) dd lr gr s g fl mr R Q F (d + 1) (nI (ps_st s i).length) (nI i) := by
  intro d
  induction d with
  | zero =>
    intro i ei
    have e : i = P := by omega
    subst e
    exact br_t (nI_le (by omega) (by omega)) hp
  | succ d ih =>
    intro i ei
    have hi : i < P := by omega
    have h6 : i < 60 := by omega
    have ek : (nI i).toNatClampNeg = i := ps_ck (by omega)
    have hn := ih (i + 1) (by omega)
    refine br_f (nI_ge hi (by omega)) ⟨ps_in h6, ?_⟩
    by_cases h2 : s i = 2
    · rw [ps_st2 h2, List.length_cons] at hn
      exact br_t (by rw [ek]; exact h2) (nm_r (nI_1 _) ⟨ps_in h6, br_f (by rw [ek, h2]; decide) (nm_r (nI_1 i) hn)⟩)
    · refine br_f (by rw [ek]; exact h2) ⟨ps_in h6, ?_⟩
      by_cases h3 : s i = 3
      · rw [ps_st3 h3, List.length_tail] at hn
        exact br_t (by rw [ek]; exact h3) (nm_r (ps_a1 (ps_ne3 D i hi h3)) (nm_r (nI_1 i) hn))
      · rw [ps_stn h2 h3] at hn
        exact br_f (by rw [ek]; exact h3) (nm_r (nI_1 i) hn)
theorem ps_ywt {post : Int32 → Prop} (hP : P ≤ 60) (D : ps_D P s g K L G C M) (hp : post (nI (ps_st s P).length)) : wpY_waiting post (mo, nI P, dd, lr, gr, s, g, fl, mr, R, Q, F) :=
  ⟨P + 1, ps_yw hP D hp P 0 (by omega)⟩
theorem ps_y71 {post : Int32 → Prop} {J : Int32 → Int32 → Int32 → Prop} {v a : Int32} {i : Nat} (hi : i < 60) (h : ps_pc s g K L G M i) (hj : J (m + L i) v (nI (i + 1))) : wY_reach_71 post J m v (nI i) mo a dd lr gr s g fl mr R Q F := by
  have ek : (nI i).toNatClampNeg = i := ps_ck (by omega)
  refine ⟨ps_in hi, ?_⟩
  rcases h with ⟨hs, hK, hL⟩ | ⟨hs, hK, hL, hG⟩ | ⟨hs, hK, hL, hG, hM⟩ | ⟨hs, hK, hL, hn⟩
  · rw [hL] at hj
    exact br_t (by rw [ek]; exact hs) ⟨ps_in hi, nm_r (e' := m + g i) (by rw [ek]) ⟨ps_in hi, br_f (by rw [ek, hs]; decide) (nm_r (nI_1 i) hj)⟩⟩
  · rw [hL] at hj
    exact br_f (by rw [ek, hs]; decide) ⟨ps_in hi, br_t (by rw [ek]; exact hs) (nm_e (nm_r (nI_1 i) hj))⟩
  · rw [hL, Int32.add_zero] at hj
    exact br_f (by rw [ek, hs]; decide) ⟨ps_in hi, br_f (by rw [ek, hs]; decide) (nm_r (nI_1 i) hj)⟩
  · rw [hL, Int32.add_zero] at hj
    exact br_f (by rw [ek, hs]; decide) ⟨ps_in hi, br_f (by rw [ek, hs]; decide) (nm_r (nI_1 i) hj)⟩
theorem ps_y54 {post : Int32 → Prop} {J : Int32 → Int32 → Int32 → Prop} {a : Int32} {i : Nat} (n : Nat) (hn : n ≤ 200) (hi : i < 60) (h : ps_pc s g K L G M i) (h0 : n = 0 → s i = 1 → post m) (hj : ¬ (n = 0 ∧ s i = 1) → J (m + L i) (nI n) (nI (i + 1))) : wY_reach_54 post J m (nI n) (nI i) mo a dd lr gr s g fl mr R Q F := by
  have ek : (nI i).toNatClampNeg = i := ps_ck (by omega)
  by_cases hz : n = 0
  · refine br_t ((ps_eq0 hn).mpr hz) ⟨ps_in hi, ?_⟩
    by_cases h1 : s i = 1
    · exact br_t (by rw [ek]; exact h1) (h0 hz h1)
    · exact br_f (by rw [ek]; exact h1) (ps_y71 hi h (hj (fun z => h1 z.2)))
  · exact br_f (fun z => hz ((ps_eq0 hn).mp z)) (ps_y71 hi h (hj (fun z => hz z.1)))
def ps_lv (s : Nat → Int32) (o e i : Nat) : Nat := if i ≤ e then (ps_st s i).length - (ps_st s o).length else 0
theorem ps_lvt {o e i : Nat} (h : i ≤ e) : ps_lv s o e i = (ps_st s i).length - (ps_st s o).length := if_pos h
theorem ps_lvf {o e i : Nat} (h : e < i) : ps_lv s o e i = 0 := if_neg (by omega)
theorem ps_yr {post : Int32 → Prop} {o e : Nat} (hP : P ≤ 60) (D : ps_D P s g K L G C M) (hm : ∀ i, o < i → i ≤ e → i ≤ P → o ∈ ps_st s i) (he : e < P → s e = 3 ∧ (ps_st s e).length = (ps_st s o).length + 1) (hep : e < P ∨ P ≤ e) : ∀ (d i : Nat) (x : Int32), i + d = P → o < i → post (ps_rc s L e d i x) → wY_reach_9 post mo (nI P) dd lr gr s g fl mr R Q F (d + 1) x (nI (ps_lv s o e i)) (nI i) := by
  intro d
  induction d with
  | zero =>
    intro i x ei _ hp
    exact br_t (nI_le (by omega) (by omega)) hp
  | succ d ih =>
    intro i x ei hoi hp
    have hi : i < P := by omega
    have h6 : i < 60 := by omega
    have ek : (nI i).toNatClampNeg = i := ps_ck (by omega)
    have pc := D.1 i hi
    have hlen := ps_len (s := s) i
    have hn := fun hp' => ih (i + 1) (x + L i) (by omega) (by omega) hp'
    refine br_f (nI_ge hi (by omega)) ?_
    by_cases hc : i ≤ e
    · have hlt := ps_B (s := s) (i + 1) i (by omega) (hm i hoi hc (by omega))
      rw [ps_rc3 hc] at hp
      replace hn := hn hp
      rw [ps_lvt hc]
      generalize hN : (ps_st s i).length - (ps_st s o).length = n
      have hn0 : ¬ nI n ≤ 0 := fun z => absurd ((ps_le0 (by omega)).mp z) (by omega)
      refine br_f hn0 ⟨ps_in h6, ?_⟩
      by_cases h2 : s i = 2
      · have hne : i ≠ e := fun z => by
          have := (he (by omega)).1
          rw [← z, h2] at this
          exact absurd this (by decide)
        rw [ps_lvt (by omega), ps_st2 h2, List.length_cons, show (ps_st s i).length + 1 - (ps_st s o).length = n + 1 by omega] at hn
        exact br_t (by rw [ek]; exact h2) (nm_r (nI_1 n) (br_f (fun z => absurd ((ps_le0 (by omega)).mp z) (by omega)) ⟨ps_in h6, br_f (by rw [ek, h2]; decide) (ps_y54 (n + 1) (by omega) h6 pc (fun z => by omega) (fun _ => hn))⟩))
      · refine br_f (by rw [ek]; exact h2) (br_f hn0 ⟨ps_in h6, ?_⟩)
        by_cases h3 : s i = 3
        · have hl : ps_lv s o e (i + 1) = n - 1 := by
            by_cases hc' : i + 1 ≤ e
            · rw [ps_lvt hc', ps_st3 h3, List.length_tail]; omega
            · have ee : i = e := by omega
              have := (he (by omega)).2
              rw [ps_lvf (by omega)]
              rw [← ee] at this
              omega
          rw [hl] at hn
          exact br_t (by rw [ek]; exact h3) (nm_r (ps_a1 (by omega)) (ps_y54 (n - 1) (by omega) h6 pc (fun _ z => absurd (h3.symm.trans z) (by decide)) (fun _ => hn)))
        · have hne : i ≠ e := fun z => by
            have := (he (by omega)).1
            rw [← z] at this
            exact h3 this
          rw [ps_lvt (by omega), ps_stn h2 h3, hN] at hn
          exact br_f (by rw [ek]; exact h3) (ps_y54 n (by omega) h6 pc (fun z => by omega) (fun _ => hn))
    · rw [ps_lvf (by omega)]
      refine br_t (by rw [nI_0]; decide) (br_t (by rw [nI_0]; decide) (ps_y54 0 (by omega) h6 pc (fun _ h1 => ?_) (fun h1 => ?_)))
      · rw [ps_rc1 h1 (by omega)] at hp
        exact hp
      · rw [ps_rc2 (fun z => h1 ⟨rfl, z⟩)] at hp
        replace hn := hn hp
        rw [ps_lvf (by omega)] at hn
        exact hn
theorem ps_yrc {post : Int32 → Prop} {i : Nat} (hP : P ≤ 60) (hi : i < P) (D : ps_D P s g K L G C M) (h2 : s i = 2) (hp : post (ps_rc s L (C i).toNatClampNeg (P - (i + 1)) (i + 1) 0)) : wpY_reach post (mo, nI P, dd, lr, gr, s, g, fl, mr, R, Q, F) (nI i) := by
  obtain ⟨e, he, he6, hie, hm, h3⟩ := ps_clo hP hi (D.2 i hi) h2
  rw [he, ps_ck (by omega)] at hp
  have h := ps_yr (mo := mo) (dd := dd) (lr := lr) (gr := gr) (fl := fl) (mr := mr) (R := R) (Q := Q) (F := F) hP D hm h3 (by omega) (P - (i + 1)) (i + 1) 0 (by omega) (by omega) hp
  rw [ps_lvt (by omega), ps_st2 h2, List.length_cons, show (ps_st s i).length + 1 - (ps_st s i).length = 1 by omega] at h
  exact nm_r (nI_1 i) ⟨_, h⟩
theorem ps_y81 {post : SY → Prop} {z x a : Int32} {i n : Nat} (hi : i < 60) (hn : n < 60) (hz : vp_nar .boolean z = z) (hp : post (mo, a, nI (n + 1), lr, gr, s, g, upd fl n z, upd mr n (x + g i), R, Q, upd F i z)) : wY_enter_81 post (nI i) x z (nI n) mo a (nI n) lr gr s g fl mr R Q F := by
  have ek : (nI i).toNatClampNeg = i := ps_ck (by omega)
  have en : (nI n).toNatClampNeg = n := ps_ck (by omega)
  exact ⟨ps_in hn, nm_r (e' := upd fl n z) (by rw [en, hz]) ⟨ps_in hi, ps_in hn, nm_r (e' := upd mr n (x + g i)) (by rw [en, ek]) ⟨ps_in hn, ps_in hi, nm_r (e' := upd F i z) (by rw [en, ek, ps_us, hz]) (nm_r (nI_1 n) hp)⟩⟩⟩
theorem ps_y50 {post : SY → Prop} {x : Int32} {i n : Nat} (hP : P ≤ 60) (hi : i < P) (hn : n < 60) (D : ps_D P s g K L G C M) (h2 : s i = 2) (hp : post (mo, nI P, nI (n + 1), lr, gr, s, g, upd fl n (ps_bf P s L C F w i c), upd mr n (x + g i), R, Q, upd F i (ps_bf P s L C F w i c))) : wY_enter_50 post (nI i) c w (ps_fl F (ps_st s i)) x mo (nI P) (nI n) lr gr s g fl mr R Q F := by
  unfold ps_bf at hp
  by_cases hf : ps_fl F (ps_st s i) = 0
  · rw [if_pos hf] at hp
    refine br_t hf (ps_yrc hP hi D h2 ?_)
    by_cases hw : w < c + ps_rc s L (C i).toNatClampNeg (P - (i + 1)) (i + 1) 0
    · rw [if_pos hw] at hp
      exact br_t hw (ps_y81 (by omega) hn ps_vb0 hp)
    · rw [if_neg hw] at hp
      exact br_f hw (ps_y81 (by omega) hn ps_vb1 hp)
  · rw [if_neg hf] at hp
    exact br_f hf (ps_y81 (by omega) hn ps_vb1 hp)
theorem ps_yen {post : SY → Prop} {i : Nat} (hP : P ≤ 60) (hi : i < P) (D : ps_D P s g K L G C M) (h2 : s i = 2) (al : ps_al F M fl mr (ps_st s i)) (hp : post (mo, nI P, nI ((ps_st s i).length + 1), lr, gr, s, g, upd fl (ps_st s i).length (ps_bf P s L C F w i c), upd mr (ps_st s i).length (ps_mi M (ps_st s i) + g i), R, Q, upd F i (ps_bf P s L C F w i c))) : wpY_enter post (mo, nI P, nI (ps_st s i).length, lr, gr, s, g, fl, mr, R, Q, F) (nI i) c w := by
  have hlen := ps_len (s := s) i
  have h50 : ∀ x, x = ps_mi M (ps_st s i) → wY_enter_50 post (nI i) c w (ps_fl F (ps_st s i)) x mo (nI P) (nI (ps_st s i).length) lr gr s g fl mr R Q F := fun x hx => ps_y50 hP hi (by omega) D h2 (by rw [hx]; exact hp)
  cases hs : ps_st s i with
  | nil =>
    rw [hs] at h50
    exact br_t (by decide) (br_t (by decide) (h50 0 rfl))
  | cons o t =>
    rw [hs] at h50 al hlen
    rw [List.length_cons] at h50 hlen ⊢
    have hd : ¬ nI (t.length + 1) ≤ 0 := fun z => absurd ((ps_le0 (by omega)).mp z) (by omega)
    have ed : (nI (t.length + 1) - 1).toNatClampNeg = t.length := by rw [nI_pred, ps_ck (by omega)]
    have vd : vp_in (nI (t.length + 1) - 1) 60 := by rw [nI_pred]; exact ps_in (by omega)
    have h26 : wY_enter_26 post (nI i) c w (ps_fl F (o :: t)) mo (nI P) (nI (t.length + 1)) lr gr s g fl mr R Q F := br_f hd ⟨vd, h50 _ (by rw [ed]; exact al.2.1)⟩
    refine br_f hd ⟨vd, ?_⟩
    by_cases hf : F o = 0
    · rw [ps_fl, if_pos hf] at h26
      exact br_t (by rw [ed, al.1]; exact hf) h26
    · rw [ps_fl, if_neg hf] at h26
      exact br_f (by rw [ed, al.1]; exact hf) h26
theorem ps_y193 {post : SY → Prop} {J : Int32 → Int32 → Int32 → Int32 → Int32 → Int32 → Int32 → (Nat → Int32) → (Nat → Int32) → (Nat → Int32) → (Nat → Int32) → (Nat → Int32) → (Nat → Int32) → (Nat → Int32) → Prop} {a : Int32} {i : Nat} (hj : J c (nI (i + 1)) mo a dd lr (ps_gr gr c) s g fl mr R Q F) : wY_lay_193 post J w c (nI i) mo a dd lr gr s g fl mr R Q F := by
  unfold ps_gr at hj
  by_cases h : c ≤ gr
  · rw [if_pos h] at hj
    exact br_t h (nm_r (nI_1 i) hj)
  · rw [if_neg h] at hj
    exact br_f h (nm_r (nI_1 i) hj)
end PSD
end
section
section PSE
/-! E: the reference's laying out -/
variable {P : Nat} {mo dd lr gr w c m r : Int32} {s g K L G C M R Q F fl mr : Nat → Int32} {post : SY → Prop} {J : Int32 → Int32 → Int32 → Int32 → Int32 → Int32 → Int32 → (Nat → Int32) → (Nat → Int32) → (Nat → Int32) → (Nat → Int32) → (Nat → Int32) → (Nat → Int32) → (Nat → Int32) → Prop}
theorem ps_y156 {a : Int32} {i : Nat} (hi : i < 60) (h2 : ¬ s i = 2) (h3 : ¬ s i = 3) (hj : J c (nI (i + 1)) mo a dd lr (ps_gr gr c) s g fl mr R Q F) : wY_lay_156 post J w c (nI i) mo a dd lr gr s g fl mr R Q F := by
  have ek : (nI i).toNatClampNeg = i := ps_ck (by omega)
  exact ⟨ps_in hi, br_f (by rw [ek]; exact h2) ⟨ps_in hi, br_f (by rw [ek]; exact h3) (ps_y193 hj)⟩⟩
theorem ps_y70 {i : Nat} (hP : P ≤ 60) (hi : i < P) (D : ps_D P s g K L G C M) (al : ps_al F M fl mr (ps_st s i)) (hj : ∀ fl' mr', ps_al (ps_stp P s L C M w i (r, c, m, R, Q, F)).2.2.2.2.2 M fl' mr' (ps_st s (i + 1)) → J (ps_stp P s L C M w i (r, c, m, R, Q, F)).2.1 (nI (i + 1)) mo (nI P) (nI (ps_st s (i + 1)).length) (ps_stp P s L C M w i (r, c, m, R, Q, F)).1 (ps_stp P s L C M w i (r, c, m, R, Q, F)).2.2.1 s g fl' mr' (ps_stp P s L C M w i (r, c, m, R, Q, F)).2.2.2.1 (ps_stp P s L C M w i (r, c, m, R, Q, F)).2.2.2.2.1 (ps_stp P s L C M w i (r, c, m, R, Q, F)).2.2.2.2.2) : wY_lay_70 post J w c (nI i) (ps_fl F (ps_st s i)) mo (nI P) (nI (ps_st s i).length) r m s g fl mr (upd R i r) (upd Q i c) F := by
  have ek : (nI i).toNatClampNeg = i := ps_ck (by omega)
  have h6 : i < 60 := by omega
  have hlen := ps_len (s := s) i
  refine ⟨ps_in h6, ?_⟩
  rcases D.1 i hi with ⟨hs, hK, hL⟩ | ⟨hs, hK, hL, hG⟩ | ⟨hs, hK, hL, hG, hM⟩ | ⟨hs, hK, hL, hn⟩
  · have n2 : ¬ s i = 2 := by rw [hs]; decide
    have n3 : ¬ s i = 3 := by rw [hs]; decide
    rw [ps_stpN n2 (fun z => absurd (hs.symm.trans z) (by decide)), ps_stn n2 n3] at hj
    exact br_t (by rw [ek]; exact hs) ⟨ps_in h6, nm_r (e' := c + L i) (by rw [ek, hL]) ⟨ps_in h6, br_f (by rw [ek, hs]; decide) ⟨ps_in h6, br_f (by rw [ek, hs]; decide) (ps_y156 h6 n2 n3 (hj fl mr al))⟩⟩⟩
  · have n2 : ¬ s i = 2 := by rw [hs]; decide
    have n3 : ¬ s i = 3 := by rw [hs]; decide
    have s1 : s (nI i).toNatClampNeg = 1 := by rw [ek]; exact hs
    refine br_f (by rw [ek, hs]; decide) ⟨ps_in h6, br_t s1 ?_⟩
    by_cases hf : ps_fl F (ps_st s i) = 0
    · rw [ps_stpB hs hf, ps_stn n2 n3] at hj
      replace hj := hj fl mr al
      refine br_t hf ⟨ps_in h6, br_t s1 (br_t hf (nm_e ?_))⟩
      cases hst : ps_st s i with
      | nil =>
        rw [hst] at hj
        exact br_t (by decide) (ps_y156 h6 n2 n3 hj)
      | cons o t =>
        rw [hst] at hj al hlen
        rw [List.length_cons] at hj hlen ⊢
        have hd : ¬ nI (t.length + 1) ≤ 0 := fun z => absurd ((ps_le0 (by omega)).mp z) (by omega)
        have ed : (nI (t.length + 1) - 1).toNatClampNeg = t.length := by rw [nI_pred, ps_ck (by omega)]
        have vd : vp_in (nI (t.length + 1) - 1) 60 := by rw [nI_pred]; exact ps_in (by omega)
        refine br_f hd ⟨vd, ?_⟩
        rw [ed, al.2.1]
        exact ps_y156 h6 n2 n3 hj
    · rw [ps_stpN n2 (fun _ => hf), ps_stn n2 n3] at hj
      exact br_f hf (nm_r (e' := c + L i) (by rw [hL]) ⟨ps_in h6, br_t s1 (br_f hf (ps_y156 h6 n2 n3 (hj fl mr al)))⟩)
  · have n3 : ¬ s (nI i).toNatClampNeg = 3 := by rw [ek, hs]; decide
    rw [ps_stpO hs, ps_st2 hs, List.length_cons] at hj
    exact br_f (by rw [ek, hs]; decide) ⟨ps_in h6, br_f (by rw [ek, hs]; decide) ⟨ps_in h6, br_f (by rw [ek, hs]; decide) ⟨ps_in h6, br_t (by rw [ek]; exact hs) (ps_yen hP hi D hs al ⟨ps_in h6, br_f n3 (ps_y193 (hj _ _ (ps_alO _ _ hM al)))⟩)⟩⟩⟩
  · have n2 : ¬ s (nI i).toNatClampNeg = 2 := by rw [ek, hs]; decide
    rw [ps_stpN (by rw [hs]; decide) (fun z => absurd (hs.symm.trans z) (by decide)), ps_st3 hs, List.length_tail, hL, Int32.add_zero] at hj
    exact br_f (by rw [ek, hs]; decide) ⟨ps_in h6, br_f (by rw [ek, hs]; decide) ⟨ps_in h6, br_f (by rw [ek, hs]; decide) ⟨ps_in h6, br_f n2 ⟨ps_in h6, br_t (by rw [ek]; exact hs) (nm_r (ps_s1 (ps_ne3 D i hi hs)) (ps_y193 (hj fl mr (ps_alC _ al))))⟩⟩⟩⟩
def ps_YS (P : Nat) (mo n : Int32) (s g fl mr : Nat → Int32) (x : ps_T) : SY := (mo, nI P, n, x.1, x.2.2.1, s, g, fl, mr, x.2.2.2.1, x.2.2.2.2.1, x.2.2.2.2.2)
theorem ps_ygo (hP : P ≤ 60) (D : ps_D P s g K L G C M) : ∀ (d i : Nat) (x : ps_T) (fl mr : Nat → Int32), i + d = P → ps_al x.2.2.2.2.2 M fl mr (ps_st s i) → (∀ n fl' mr', post (ps_YS P mo n s g fl' mr' (ps_go P s L C M w d i x))) → wY_lay_19 post w (d + 1) x.2.1 (nI i) mo (nI P) (nI (ps_st s i).length) x.1 x.2.2.1 s g fl mr x.2.2.2.1 x.2.2.2.2.1 x.2.2.2.2.2 := by
  intro d
  induction d with
  | zero =>
    intro i x fl mr ei _ hp
    exact br_t (nI_le (by omega) (by omega)) (hp _ fl mr)
  | succ d ih =>
    intro i x fl mr ei al hp
    have hi : i < P := by omega
    have h6 : i < 60 := by omega
    have ek : (nI i).toNatClampNeg = i := ps_ck (by omega)
    have hlen := ps_len (s := s) i
    obtain ⟨r, c, m, R, Q, F⟩ := x
    have h70 := ps_y70 (post := post) (J := wY_lay_19 post w (d + 1)) (mo := mo) (w := w) (c := c) (m := m) (r := r) (R := R) (Q := Q) (F := F) hP hi D al (fun fl' mr' al' => ih (i + 1) (ps_stp P s L C M w i (r, c, m, R, Q, F)) fl' mr' (by omega) al' hp)
    refine br_f (nI_ge hi (by omega)) ⟨ps_in h6, nm_r (e' := upd R i r) (by rw [ek]) ⟨ps_in h6, nm_r (e' := upd Q i c) (by rw [ek]) ?_⟩⟩
    cases hst : ps_st s i with
    | nil =>
      rw [hst] at h70
      exact br_t (by decide) h70
    | cons o t =>
      rw [hst] at h70 al hlen
      rw [List.length_cons] at h70 hlen ⊢
      have hd : ¬ nI (t.length + 1) ≤ 0 := fun z => absurd ((ps_le0 (by omega)).mp z) (by omega)
      have ed : (nI (t.length + 1) - 1).toNatClampNeg = t.length := by rw [nI_pred, ps_ck (by omega)]
      have vd : vp_in (nI (t.length + 1) - 1) 60 := by rw [nI_pred]; exact ps_in (by omega)
      refine br_f hd ⟨vd, ?_⟩
      by_cases hf : F o = 0
      · rw [ps_fl, if_pos hf] at h70
        exact br_t (by rw [ed, al.1]; exact hf) h70
      · rw [ps_fl, if_neg hf] at h70
        exact br_f (by rw [ed, al.1]; exact hf) h70
theorem ps_yly (hP : P ≤ 60) (D : ps_D P s g K L G C M) (hp : ∀ n fl' mr', post (ps_YS P mo n s g fl' mr' (ps_ly P s L C M w R Q F))) : wpY_lay post (mo, nI P, dd, lr, gr, s, g, fl, mr, R, Q, F) w :=
  ⟨P + 1, ps_ygo hP D P 0 (0, 0, 0, R, Q, F) fl mr (by omega) trivial hp⟩
end PSE
section PSF
variable {P : Nat} {mo dd lr gr : Int32} {s g fl mr R Q F : Nat → Int32} {post : Int32 → SY → Prop}
theorem ps_yadd {k l : Int32} (hP : P < 60) (hp : post (nI (P + 1)) (mo, nI (P + 1), dd, lr, gr, upd s P k, upd g P l, fl, mr, R, Q, F)) : wpY_add post (mo, nI P, dd, lr, gr, s, g, fl, mr, R, Q, F) k l := by
  have ek : (nI P).toNatClampNeg = P := ps_ck (by omega)
  have h : ¬ nI P = 60 := fun z => absurd ((nI_eq (a := P) (b := 60) (by omega) (by decide)).mp z) (by omega)
  exact br_f h ⟨ps_in hP, nm_r (e' := upd s P k) (by rw [ek]) ⟨ps_in hP, nm_r (e' := upd g P l) (by rw [ek]) (nm_r (nI_1 P) hp)⟩⟩
theorem ps_yad6 {k l : Int32} (hP : P = 60) (hp : post (-1) (mo, nI P, dd, lr, gr, s, g, fl, mr, R, Q, F)) : wpY_add post (mo, nI P, dd, lr, gr, s, g, fl, mr, R, Q, F) k l := by
  subst hP
  exact br_t rfl hp
end PSF
end
section
section PSG
/-! F: the least width, the limits of the width, is there such a piece -/
variable {P : Nat} {inn unc cw r c m mo dd lr gr x1 : Int32} {s g K L G C M R Q F fl mr : Nat → Int32}
def ps_lw (P : Nat) (s L C M : Nat → Int32) (x1 : Int32) : Nat → Nat → (Nat → Int32) → (Nat → Int32) → (Nat → Int32) → Int32 × (Nat → Int32) × (Nat → Int32) × (Nat → Int32)
  | 0, _, R, Q, F => (101, R, Q, F)
  | d + 1, i, R, Q, F =>
    if x1 < (ps_ly P s L C M (nI i) R Q F).1 + 1 then ps_lw P s L C M x1 d (i + 1) (ps_ly P s L C M (nI i) R Q F).2.2.2.1 (ps_ly P s L C M (nI i) R Q F).2.2.2.2.1 (ps_ly P s L C M (nI i) R Q F).2.2.2.2.2
    else (nI i, (ps_ly P s L C M (nI i) R Q F).2.2.2.1, (ps_ly P s L C M (nI i) R Q F).2.2.2.2.1, (ps_ly P s L C M (nI i) R Q F).2.2.2.2.2)
theorem ps_xlw {post : Int32 → SX → Prop} (hP : P ≤ 60) (D : ps_D P s g K L G C M) : ∀ (d i : Nat) (r c m : Int32) (R Q F : Nat → Int32), i + d = 101 → (∀ a b e, post (ps_lw P s L C M x1 d i R Q F).1 (nI P, inn, unc, cw, a, b, e, K, L, G, C, M, (ps_lw P s L C M x1 d i R Q F).2.1, (ps_lw P s L C M x1 d i R Q F).2.2.1, (ps_lw P s L C M x1 d i R Q F).2.2.2)) → wX_leastWidth_2 post x1 (d + 1) (nI i) (nI P) inn unc cw r c m K L G C M R Q F := by
  intro d
  induction d with
  | zero =>
    intro i r c m R Q F ei hp
    exact br_t (nI_lt (a := 100) (by omega) (by omega)) (hp r c m)
  | succ d ih =>
    intro i r c m R Q F ei hp
    refine br_f (nI_nlt (a := 100) (b := i) (by omega) (by decide)) (ps_xly hP D ?_)
    by_cases h : x1 < (ps_ly P s L C M (nI i) R Q F).1 + 1
    · rw [ps_lw, if_pos h] at hp
      exact br_t h (nm_r (nI_1 i) (ih (i + 1) _ _ _ _ _ _ (by omega) hp))
    · rw [ps_lw, if_neg h] at hp
      exact br_f h (hp _ _ _)
theorem ps_ylw {post : Int32 → SY → Prop} (hP : P ≤ 60) (D : ps_D P s g K L G C M) : ∀ (d i : Nat) (dd lr gr : Int32) (fl mr R Q F : Nat → Int32), i + d = 101 → (∀ a b e fl' mr', post (ps_lw P s L C M x1 d i R Q F).1 (mo, nI P, a, b, e, s, g, fl', mr', (ps_lw P s L C M x1 d i R Q F).2.1, (ps_lw P s L C M x1 d i R Q F).2.2.1, (ps_lw P s L C M x1 d i R Q F).2.2.2)) → wY_leastWidth_2 post x1 (d + 1) (nI i) mo (nI P) dd lr gr s g fl mr R Q F := by
  intro d
  induction d with
  | zero =>
    intro i dd lr gr fl mr R Q F ei hp
    exact br_t (nI_lt (a := 100) (by omega) (by omega)) (hp dd lr gr fl mr)
  | succ d ih =>
    intro i dd lr gr fl mr R Q F ei hp
    refine br_f (nI_nlt (a := 100) (b := i) (by omega) (by decide)) (ps_yly hP D (fun n fl' mr' => ?_))
    by_cases h : x1 < (ps_ly P s L C M (nI i) R Q F).1 + 1
    · rw [ps_lw, if_pos h] at hp
      exact br_t h (nm_r (nI_1 i) (ih (i + 1) _ _ _ _ _ _ _ _ (by omega) hp))
    · rw [ps_lw, if_neg h] at hp
      exact br_f h (hp _ _ _ _ _)
def ps_cw (x : Int32) : Int32 := if 1 ≤ x then (if x ≤ 100 then x else 100) else 1
theorem ps_xwl {post : Int32 → Prop} {x : Int32} (hp : post (ps_cw x)) : wpX_withinLimits post x := by
  unfold ps_cw at hp
  by_cases h : 1 ≤ x
  · rw [if_pos h] at hp
    by_cases h2 : x ≤ 100
    · rw [if_pos h2] at hp
      exact br_t h (br_t h2 hp)
    · rw [if_neg h2] at hp
      exact br_t h (br_f h2 hp)
  · rw [if_neg h] at hp
    exact br_f h hp
theorem ps_ywd {post : SY → Prop} {x a : Int32} (hp : post (ps_cw x, a, dd, lr, gr, s, g, fl, mr, R, Q, F)) : wpY_width post (mo, a, dd, lr, gr, s, g, fl, mr, R, Q, F) x := by
  unfold ps_cw at hp
  by_cases h : 1 ≤ x
  · rw [if_pos h] at hp
    by_cases h2 : x ≤ 100
    · rw [if_pos h2] at hp
      exact br_t h (br_t h2 hp)
    · rw [if_neg h2] at hp
      exact br_t h (br_f h2 hp)
  · rw [if_neg h] at hp
    exact br_f h hp
/-- no such piece -/
def ps_no (P : Nat) (x : Int32) : Prop := x < 0 ∨ nI P ≤ x
theorem ps_ix (P : Nat) (hP : P ≤ 60) (x : Int32) : ps_no P x ∨ ∃ j : Nat, j < P ∧ x = nI j := by
  by_cases h : x < 0
  · exact Or.inl (Or.inl h)
  · obtain ⟨j, hj, rfl⟩ := nI_of h
    by_cases h2 : j < P
    · exact Or.inr ⟨j, h2, rfl⟩
    · exact Or.inl (Or.inr (nI_le (by omega) hj))
theorem ps_xpn {post : Int32 → Prop} {x : Int32} (h : ps_no P x) (hp : post 0) : wpX_isPiece post (nI P, inn, unc, cw, r, c, m, K, L, G, C, M, R, Q, F) x := by
  by_cases h0 : x < 0
  · exact br_t h0 hp
  · exact br_f h0 (br_t (h.resolve_left h0) hp)
theorem ps_xpy {post : Int32 → Prop} {j : Nat} (hP : P ≤ 60) (h : j < P) (hp : post 1) : wpX_isPiece post (nI P, inn, unc, cw, r, c, m, K, L, G, C, M, R, Q, F) (nI j) :=
  br_f (nI_pos (by omega)) (br_f (nI_ge h (by omega)) hp)
theorem ps_ypn {post : Int32 → Prop} {x : Int32} (h : ps_no P x) (hp : post 1) : wpY_missing post (mo, nI P, dd, lr, gr, s, g, fl, mr, R, Q, F) x := by
  by_cases h0 : x < 0
  · exact br_t h0 hp
  · exact br_f h0 (br_f (Int32.not_lt.mpr (h.resolve_left h0)) hp)
theorem ps_ypy {post : Int32 → Prop} {j : Nat} (hP : P ≤ 60) (h : j < P) (hp : post 0) : wpY_missing post (mo, nI P, dd, lr, gr, s, g, fl, mr, R, Q, F) (nI j) :=
  br_f (nI_pos (by omega)) (br_t (nI_lt h (by omega)) hp)
theorem ps_10 : ¬ (1 : Int32) = 0 := by decide
end PSG
end
section
section PSH
/-- the two states hold the same document, width and last laying out -/
def ps_Rl (u : SX) (v : SY) : Prop := ∃ (P : Nat) (w a b c d e f : Int32) (K L G C M R Q F s g fl mr : Nat → Int32), u = (nI P, ps_hd (ps_st s P), nI (ps_st s P).length, w, a, b, c, K, L, G, C, M, R, Q, F) ∧ v = (w, nI P, d, e, f, s, g, fl, mr, R, Q, F) ∧ P ≤ 60 ∧ (ps_st s P).length ≤ 12 ∧ ps_D P s g K L G C M
theorem ps_mk {P : Nat} {inn unc w a b c d e f : Int32} {K L G C M R Q F s g fl mr : Nat → Int32} (h1 : inn = ps_hd (ps_st s P)) (h2 : unc = nI (ps_st s P).length) (hP : P ≤ 60) (hl : (ps_st s P).length ≤ 12) (D : ps_D P s g K L G C M) : ps_Rl (nI P, inn, unc, w, a, b, c, K, L, G, C, M, R, Q, F) (w, nI P, d, e, f, s, g, fl, mr, R, Q, F) := by
  subst h1 h2
  exact ⟨P, w, a, b, c, d, e, f, K, L, G, C, M, R, Q, F, s, g, fl, mr, rfl, rfl, hP, hl, D⟩
def i_Rel (k : Nat) (u : SX) (v : SY) : Prop := ps_Rl u v
theorem i_up {k : Nat} {u : SX} {v : SY} (h : i_Rel k u v) : i_Rel (k + 2) u v := h
theorem ps_D0 {s g K L G C M : Nat → Int32} : ps_D 0 s g K L G C M := ⟨fun i h => absurd h (by omega), fun i h => absurd h (by omega)⟩
theorem i_vc0 (k0 : Int32) : wpX_init (fun u => wpY_init (fun v => i_Rel 1 u v) k0) k0 := by
  unfold wpX_init
  refine ps_xwl ?_
  unfold wpY_init
  refine ps_ywd ?_
  exact ps_mk (P := 0) rfl rfl (by omega) (Nat.zero_le _) ps_D0
theorem i_vc_word {k : Nat} {u : SX} {v : SY} (I : i_Rel k u v) (hk : k + 2 ≤ 1025) (v1 : Int32) : wpX_word (fun r u' => wpY_word (fun r' v' => r' = r ∧ i_Rel (k + 2) u' v') v v1) u v1 := by
  obtain ⟨P, w, a, b, c, d, e, f, K, L, G, C, M, R, Q, F, s, g, fl, mr, rfl, rfl, hP, hl, D⟩ := I
  by_cases h1 : v1 < 1
  · exact br_t h1 (br_t h1 ⟨rfl, ps_mk rfl rfl hP hl D⟩)
  · by_cases h2 : 20 < v1
    · exact br_f h1 (br_t h2 (br_f h1 (br_f (Int32.not_le.mpr h2) ⟨rfl, ps_mk rfl rfl hP hl D⟩)))
    · have h2' : v1 ≤ 20 := Int32.not_lt.mp h2
      by_cases h3 : P < 60
      · refine br_f h1 (br_f h2 (ps_xnf h3 (br_t rfl (ps_xadd h3 (br_f h1 (br_t h2' (ps_yadd h3 ⟨rfl, ps_mk ?_ ?_ (by omega) ?_ (ps_addW D _ _)⟩)))))))
        · rw [ps_uW (by decide) (by decide)]
        · rw [ps_uW (by decide) (by decide)]
        · rw [ps_uW (by decide) (by decide)]; exact hl
      · exact br_f h1 (br_f h2 (ps_xf (by omega) hP (br_f ps_10 (br_f h1 (br_t h2' (ps_yad6 (by omega) ⟨rfl, ps_mk rfl rfl hP hl D⟩))))))
theorem i_vc_lineBreak {k : Nat} {u : SX} {v : SY} (I : i_Rel k u v) (hk : k + 2 ≤ 1025) : wpX_lineBreak (fun r u' => wpY_lineBreak (fun r' v' => r' = r ∧ i_Rel (k + 2) u' v') v) u := by
  obtain ⟨P, w, a, b, c, d, e, f, K, L, G, C, M, R, Q, F, s, g, fl, mr, rfl, rfl, hP, hl, D⟩ := I
  unfold wpX_lineBreak wpY_lineBreak
  dsimp only
  by_cases h3 : P < 60
  · refine ps_xnf h3 (br_t rfl (ps_xadd h3 ?_))
    refine ps_yadd h3 ⟨rfl, ps_mk ?_ ?_ (by omega) ?_ (ps_addB D _)⟩
    · rw [ps_uW (by decide) (by decide)]
    · rw [ps_uW (by decide) (by decide)]
    · rw [ps_uW (by decide) (by decide)]; exact hl
  · refine ps_xf (by omega) hP (br_f ps_10 ?_)
    exact ps_yad6 (by omega) ⟨rfl, ps_mk rfl rfl hP hl D⟩
theorem i_vc_open {k : Nat} {u : SX} {v : SY} (I : i_Rel k u v) (hk : k + 2 ≤ 1025) (v1 : Int32) : wpX_open (fun r u' => wpY_open (fun r' v' => r' = r ∧ i_Rel (k + 2) u' v') v v1) u v1 := by
  obtain ⟨P, w, a, b, c, d, e, f, K, L, G, C, M, R, Q, F, s, g, fl, mr, rfl, rfl, hP, hl, D⟩ := I
  by_cases h1 : v1 < 0
  · exact br_t h1 (br_t h1 ⟨rfl, ps_mk rfl rfl hP hl D⟩)
  · by_cases h2 : 8 < v1
    · exact br_f h1 (br_t h2 (br_f h1 (br_t h2 ⟨rfl, ps_mk rfl rfl hP hl D⟩)))
    · have ek : (nI P).toNatClampNeg = P := ps_ck (by omega)
      by_cases h3 : P < 60
      · by_cases h4 : (ps_st s P).length < 12
        · have n12 : ¬ nI (ps_st s P).length = 12 := fun z => absurd ((nI_eq (b := 12) (by omega) (by decide)).mp z) (by omega)
          refine br_f h1 (br_f h2 (ps_xnf h3 (br_t rfl (br_t (nI_lt (b := 12) h4 (by decide)) ?_))))
          refine ps_xmi (ps_hl hP) ⟨ps_in h3, nm_r (e' := upd M P (ps_mi M (ps_st s P) + v1)) (by rw [ek]) ⟨ps_in h3, nm_r (e' := upd C P 60) (by rw [ek]) (ps_xadd h3 (nm_r (nI_1 _) ?_))⟩⟩
          refine br_f h1 (br_f h2 (ps_ywt hP D (br_f n12 (ps_yadd h3 ⟨rfl, ps_mk ?_ ?_ (by omega) ?_ (ps_addO D _)⟩))))
          · rw [ps_uO]; rfl
          · rw [ps_uO, List.length_cons]
          · rw [ps_uO, List.length_cons]; omega
        · have e12 : nI (ps_st s P).length = 12 := (nI_eq (b := 12) (by omega) (by decide)).mpr (by omega)
          exact br_f h1 (br_f h2 (ps_xnf h3 (br_t rfl (br_f (nI_nlt (b := 12) (by omega) (by omega)) (br_f h1 (br_f h2 (ps_ywt hP D (br_t e12 ⟨rfl, ps_mk rfl rfl hP hl D⟩))))))))
      · refine br_f h1 (br_f h2 (ps_xf (by omega) hP (br_f ps_10 (br_f h1 (br_f h2 (ps_ywt hP D (br_c (fun _ => ⟨rfl, ps_mk rfl rfl hP hl D⟩) (fun _ => ps_yad6 (by omega) ⟨rfl, ps_mk rfl rfl hP hl D⟩))))))))
theorem i_vc_close {k : Nat} {u : SX} {v : SY} (I : i_Rel k u v) (hk : k + 2 ≤ 1025) : wpX_close (fun r u' => wpY_close (fun r' v' => r' = r ∧ i_Rel (k + 2) u' v') v) u := by
  obtain ⟨P, w, a, b, c, d, e, f, K, L, G, C, M, R, Q, F, s, g, fl, mr, rfl, rfl, hP, hl, D⟩ := I
  have hlen := ps_len (s := s) P
  cases hst : ps_st s P with
  | nil =>
    refine br_t rfl ?_
    unfold wpY_close
    dsimp only
    exact ps_ywt hP D (br_t (by rw [hst]; rfl) ⟨rfl, ps_mk (by rw [hst]) (by rw [hst]) hP hl D⟩)
  | cons h t =>
    obtain ⟨ht, hh, hs2⟩ := ps_A' hst
    have eh : (ps_hd (h :: t)).toNatClampNeg = h := ps_ck (n := h) (by omega)
    have hw0 : ¬ nI (ps_st s P).length = 0 := by
      rw [hst, List.length_cons]
      exact nI_ne0 (by omega) (by rw [hst, List.length_cons] at hlen; omega)
    refine br_f (ps_ne1 (by omega)) ?_
    by_cases h3 : P < 60
    · have hG : G h = ps_hd t := by
        rcases D.1 h hh with ⟨z, _⟩ | ⟨z, _⟩ | ⟨_, _, _, z, _⟩ | ⟨z, _⟩
        · rw [hs2] at z; exact absurd z (by decide)
        · rw [hs2] at z; exact absurd z (by decide)
        · rw [z, ht]
        · rw [hs2] at z; exact absurd z (by decide)
      have hu : ps_st (upd s P 3) (P + 1) = t := by rw [ps_uC, hst]; rfl
      refine ps_xnf h3 (br_t rfl ⟨ps_in (n := h) (by omega), nm_r (e' := upd C h (nI P)) (by rw [eh]) ⟨ps_in (n := h) (by omega), nm_r (e' := ps_hd t) (by rw [eh, hG]) (nm_r (e' := nI t.length) (by rw [List.length_cons, nI_pred]) (ps_xadd h3 ?_))⟩⟩)
      unfold wpY_close
      dsimp only
      refine ps_ywt hP D (br_f hw0 (ps_yadd h3 ⟨rfl, ps_mk ?_ ?_ (by omega) ?_ (ps_addC D hst _ _)⟩))
      · rw [hu]
      · rw [hu]
      · rw [hu]; rw [hst, List.length_cons] at hl; omega
    · refine ps_xf (by omega) hP (br_f ps_10 ?_)
      unfold wpY_close
      dsimp only
      exact ps_ywt hP D (br_f hw0 (ps_yad6 (by omega) ⟨rfl, ps_mk (by rw [hst]) (by rw [hst]) hP hl D⟩))
theorem i_vc_width {k : Nat} {u : SX} {v : SY} (I : i_Rel k u v) (hk : k + 2 ≤ 1025) (v1 : Int32) : wpX_width (fun u' => wpY_width (fun v' => i_Rel (k + 2) u' v') v v1) u v1 := by
  obtain ⟨P, w, a, b, c, d, e, f, K, L, G, C, M, R, Q, F, s, g, fl, mr, rfl, rfl, hP, hl, D⟩ := I
  unfold wpX_width
  dsimp only
  refine ps_xwl ?_
  exact ps_ywd (ps_mk rfl rfl hP hl D)
theorem i_vc_row {k : Nat} {u : SX} {v : SY} (I : i_Rel k u v) (hk : k + 2 ≤ 1025) (v1 : Int32) : wpX_row (fun r u' => wpY_row (fun r' v' => r' = r ∧ i_Rel (k + 2) u' v') v v1) u v1 := by
  obtain ⟨P, w, a, b, c, d, e, f, K, L, G, C, M, R, Q, F, s, g, fl, mr, rfl, rfl, hP, hl, D⟩ := I
  unfold wpX_row wpY_row
  dsimp only
  rcases ps_ix P hP v1 with hn | ⟨j, hj, rfl⟩
  · refine ps_xpn hn (br_t rfl ?_)
    exact ps_ypn hn (br_f ps_10 ⟨rfl, ps_mk rfl rfl hP hl D⟩)
  · refine ps_xpy hP hj (br_f ps_10 (ps_xly hP D ⟨ps_in (by omega), ?_⟩))
    exact ps_ypy hP hj (br_t rfl (ps_yly hP D (fun n fl' mr' => ⟨ps_in (by omega), rfl, ps_mk rfl rfl hP hl D⟩)))
theorem i_vc_column {k : Nat} {u : SX} {v : SY} (I : i_Rel k u v) (hk : k + 2 ≤ 1025) (v1 : Int32) : wpX_column (fun r u' => wpY_column (fun r' v' => r' = r ∧ i_Rel (k + 2) u' v') v v1) u v1 := by
  obtain ⟨P, w, a, b, c, d, e, f, K, L, G, C, M, R, Q, F, s, g, fl, mr, rfl, rfl, hP, hl, D⟩ := I
  unfold wpX_column wpY_column
  dsimp only
  rcases ps_ix P hP v1 with hn | ⟨j, hj, rfl⟩
  · refine ps_xpn hn (br_t rfl ?_)
    exact ps_ypn hn (br_f ps_10 ⟨rfl, ps_mk rfl rfl hP hl D⟩)
  · refine ps_xpy hP hj (br_f ps_10 (ps_xly hP D ⟨ps_in (by omega), ?_⟩))
    exact ps_ypy hP hj (br_t rfl (ps_yly hP D (fun n fl' mr' => ⟨ps_in (by omega), rfl, ps_mk rfl rfl hP hl D⟩)))
theorem i_vc_flat {k : Nat} {u : SX} {v : SY} (I : i_Rel k u v) (hk : k + 2 ≤ 1025) (v1 : Int32) : wpX_flat (fun r u' => wpY_flat (fun r' v' => r' = r ∧ i_Rel (k + 2) u' v') v v1) u v1 := by
  obtain ⟨P, w, a, b, c, d, e, f, K, L, G, C, M, R, Q, F, s, g, fl, mr, rfl, rfl, hP, hl, D⟩ := I
  unfold wpX_flat wpY_flat
  dsimp only
  rcases ps_ix P hP v1 with hn | ⟨j, hj, rfl⟩
  · refine ps_xpn hn (br_t rfl ?_)
    exact ps_ypn hn (br_f ps_10 ⟨rfl, ps_mk rfl rfl hP hl D⟩)
  · have ek : (nI j).toNatClampNeg = j := ps_ck (by omega)
    have h6 : j < 60 := by omega
    refine ps_xpy hP hj (br_f ps_10 ⟨ps_in h6, ?_⟩)
    by_cases h2 : s j = 2
    · have hK : K (nI j).toNatClampNeg = 3 := by rw [ek]; exact (ps_K3 D j hj).mpr h2
      have hS : s (nI j).toNatClampNeg = 2 := by rw [ek]; exact h2
      refine br_t hK (ps_xly hP D ⟨ps_in h6, ?_⟩)
      refine br_c (fun z => ?_) (fun z => ?_)
      · exact ps_ypy hP hj (br_t rfl ⟨ps_in h6, br_t hS (ps_yly hP D (fun n fl' mr' => ⟨ps_in h6, br_t z ⟨rfl, ps_mk rfl rfl hP hl D⟩⟩))⟩)
      · exact ps_ypy hP hj (br_t rfl ⟨ps_in h6, br_t hS (ps_yly hP D (fun n fl' mr' => ⟨ps_in h6, br_f z ⟨rfl, ps_mk rfl rfl hP hl D⟩⟩))⟩)
    · have hK : ¬ K (nI j).toNatClampNeg = 3 := by rw [ek]; exact fun z => h2 ((ps_K3 D j hj).mp z)
      have hS : ¬ s (nI j).toNatClampNeg = 2 := by rw [ek]; exact h2
      refine br_f hK ?_
      exact ps_ypy hP hj (br_t rfl ⟨ps_in h6, br_f hS ⟨rfl, ps_mk rfl rfl hP hl D⟩⟩)
theorem i_vc_rows {k : Nat} {u : SX} {v : SY} (I : i_Rel k u v) (hk : k + 2 ≤ 1025) : wpX_rows (fun r u' => wpY_rows (fun r' v' => r' = r ∧ i_Rel (k + 2) u' v') v) u := by
  obtain ⟨P, w, a, b, c, d, e, f, K, L, G, C, M, R, Q, F, s, g, fl, mr, rfl, rfl, hP, hl, D⟩ := I
  unfold wpX_rows wpY_rows
  dsimp only
  refine ps_xly hP D ?_
  exact ps_yly hP D (fun n fl' mr' => ⟨rfl, ps_mk rfl rfl hP hl D⟩)
theorem i_vc_widest {k : Nat} {u : SX} {v : SY} (I : i_Rel k u v) (hk : k + 2 ≤ 1025) : wpX_widest (fun r u' => wpY_widest (fun r' v' => r' = r ∧ i_Rel (k + 2) u' v') v) u := by
  obtain ⟨P, w, a, b, c, d, e, f, K, L, G, C, M, R, Q, F, s, g, fl, mr, rfl, rfl, hP, hl, D⟩ := I
  unfold wpX_widest wpY_widest
  dsimp only
  refine ps_xly hP D ?_
  exact ps_yly hP D (fun n fl' mr' => ⟨rfl, ps_mk rfl rfl hP hl D⟩)
theorem i_vc_leastWidth {k : Nat} {u : SX} {v : SY} (I : i_Rel k u v) (hk : k + 2 ≤ 1025) (v1 : Int32) : wpX_leastWidth (fun r u' => wpY_leastWidth (fun r' v' => r' = r ∧ i_Rel (k + 2) u' v') v v1) u v1 := by
  obtain ⟨P, w, a, b, c, d, e, f, K, L, G, C, M, R, Q, F, s, g, fl, mr, rfl, rfl, hP, hl, D⟩ := I
  refine ⟨101, ps_xlw hP D 100 1 _ _ _ _ _ _ (by omega) (fun a' b' c' => ?_)⟩
  exact ⟨101, ps_ylw hP D 100 1 _ _ _ _ _ _ _ _ (by omega) (fun d' e' f' fl' mr' => ⟨rfl, ps_mk rfl rfl hP hl D⟩)⟩
end PSH
end
