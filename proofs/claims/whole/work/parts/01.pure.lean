section PSA
/-! A: the pure picture: pieces, the stack of groups without an end, their ends -/
theorem ps_us {f : Nat → Int32} {k : Nat} {x : Int32} : upd f k x k = x := if_pos rfl
theorem ps_un {f : Nat → Int32} {k j : Nat} {x : Int32} (h : j ≠ k) : upd f k x j = f j := if_neg h
theorem ps_ul {f : Nat → Int32} {k j : Nat} {x : Int32} (h : j < k) : upd f k x j = f j := if_neg (by omega)
/-- the begun groups without an end among the pieces before i, the innermost first -/
def ps_st (s : Nat → Int32) : Nat → List Nat
  | 0 => []
  | i + 1 => if s i = 2 then i :: ps_st s i else if s i = 3 then (ps_st s i).tail else ps_st s i
theorem ps_st2 {s : Nat → Int32} {i : Nat} (h : s i = 2) : ps_st s (i + 1) = i :: ps_st s i := by
  rw [ps_st, if_pos h]
theorem ps_st3 {s : Nat → Int32} {i : Nat} (h : s i = 3) : ps_st s (i + 1) = (ps_st s i).tail := by
  rw [ps_st, if_neg (by rw [h]; decide), if_pos h]
theorem ps_stn {s : Nat → Int32} {i : Nat} (h2 : ¬ s i = 2) (h3 : ¬ s i = 3) : ps_st s (i + 1) = ps_st s i := by
  rw [ps_st, if_neg h2, if_neg h3]
theorem ps_congr {s s' : Nat → Int32} : ∀ i : Nat, (∀ j, j < i → s' j = s j) → ps_st s' i = ps_st s i := by
  intro i
  induction i with
  | zero => intro _; rfl
  | succ i ih =>
    intro h
    rw [ps_st, ps_st, h i (by omega), ih (fun j hj => h j (by omega))]
theorem ps_mem {s : Nat → Int32} : ∀ i o : Nat, o ∈ ps_st s i → o < i ∧ s o = 2 := by
  intro i
  induction i with
  | zero => intro o h; rw [ps_st] at h; exact nomatch h
  | succ i ih =>
    intro o h
    by_cases h2 : s i = 2
    · rw [ps_st2 h2] at h
      cases List.mem_cons.mp h with
      | inl e => subst e; exact ⟨by omega, h2⟩
      | inr m => exact ⟨by have := (ih o m).1; omega, (ih o m).2⟩
    · by_cases h3 : s i = 3
      · rw [ps_st3 h3] at h
        have m := List.mem_of_mem_tail h
        exact ⟨by have := (ih o m).1; omega, (ih o m).2⟩
      · rw [ps_stn h2 h3] at h
        exact ⟨by have := (ih o h).1; omega, (ih o h).2⟩
theorem ps_len {s : Nat → Int32} : ∀ i : Nat, (ps_st s i).length ≤ i := by
  intro i
  induction i with
  | zero => exact Nat.le_refl _
  | succ i ih =>
    by_cases h2 : s i = 2
    · rw [ps_st2 h2, List.length_cons]; omega
    · by_cases h3 : s i = 3
      · rw [ps_st3 h3, List.length_tail]; omega
      · rw [ps_stn h2 h3]; omega
theorem ps_back {s : Nat → Int32} {i o : Nat} (hi : o < i) (h : o ∈ ps_st s (i + 1)) : o ∈ ps_st s i := by
  by_cases h2 : s i = 2
  · rw [ps_st2 h2] at h
    cases List.mem_cons.mp h with
    | inl e => omega
    | inr m => exact m
  · by_cases h3 : s i = 3
    · rw [ps_st3 h3] at h
      exact List.mem_of_mem_tail h
    · rw [ps_stn h2 h3] at h
      exact h
theorem ps_M {s : Nat → Int32} {o : Nat} : ∀ d i j : Nat, i + d = j → o < i → o ∈ ps_st s j → o ∈ ps_st s i := by
  intro d
  induction d with
  | zero => intro i j e _ h; rw [show i = j from e]; exact h
  | succ d ih =>
    intro i j e ho h
    have e' : j = (i + d) + 1 := by omega
    rw [e'] at h
    exact ih i (i + d) rfl ho (ps_back (by omega) h)
theorem ps_A {s : Nat → Int32} : ∀ n i o : Nat, ∀ t : List Nat, i < n → ps_st s i = o :: t → t = ps_st s o := by
  intro n
  induction n with
  | zero => intro i o t h; omega
  | succ n ih =>
    intro i o t hi h
    cases i with
    | zero => rw [ps_st] at h; exact nomatch h
    | succ i =>
      by_cases h2 : s i = 2
      · rw [ps_st2 h2] at h
        injection h with e1 e2
        rw [← e1, e2]
      · by_cases h3 : s i = 3
        · rw [ps_st3 h3] at h
          cases hs : ps_st s i with
          | nil => rw [hs] at h; exact nomatch h
          | cons x t' =>
            rw [hs, List.tail_cons] at h
            have hx := ih i x t' (by omega) hs
            have hm := (ps_mem i x (by rw [hs]; exact List.mem_cons.mpr (Or.inl rfl))).1
            rw [h] at hx
            exact ih x o t (by omega) hx.symm
        · rw [ps_stn h2 h3] at h
          exact ih i o t (by omega) h
theorem ps_A' {s : Nat → Int32} {i o : Nat} {t : List Nat} (h : ps_st s i = o :: t) : t = ps_st s o ∧ o < i ∧ s o = 2 := by
  have hm := ps_mem (s := s) i o (by rw [h]; exact List.mem_cons.mpr (Or.inl rfl))
  exact ⟨ps_A (i + 1) i o t (by omega) h, hm.1, hm.2⟩
theorem ps_B {s : Nat → Int32} {o : Nat} : ∀ n i : Nat, i < n → o ∈ ps_st s i → (ps_st s o).length < (ps_st s i).length := by
  intro n
  induction n with
  | zero => intro i h; omega
  | succ n ih =>
    intro i hi h
    cases hs : ps_st s i with
    | nil => rw [hs] at h; exact nomatch h
    | cons x t =>
      obtain ⟨ht, hx, _⟩ := ps_A' hs
      rw [hs] at h
      rw [List.length_cons, ht]
      cases List.mem_cons.mp h with
      | inl e => rw [e]; omega
      | inr m =>
        rw [ht] at m
        have := ih x (by omega) m
        omega
def ps_hd : List Nat → Int32
  | [] => -1
  | o :: _ => nI o
def ps_mi (M : Nat → Int32) : List Nat → Int32
  | [] => 0
  | o :: _ => M o
theorem ps_mim {s M M' : Nat → Int32} {i : Nat} (h : ∀ j, j < i → M' j = M j) : ps_mi M' (ps_st s i) = ps_mi M (ps_st s i) := by
  cases hs : ps_st s i with
  | nil => rfl
  | cons o t => exact h o (ps_A' hs).2.1
/-- piece i as both sides keep it -/
def ps_pc (s g K L G M : Nat → Int32) (i : Nat) : Prop :=
  (s i = 0 ∧ K i = 1 ∧ L i = g i) ∨ (s i = 1 ∧ K i = 2 ∧ L i = 1 ∧ G i = ps_hd (ps_st s i)) ∨
  (s i = 2 ∧ K i = 3 ∧ L i = 0 ∧ G i = ps_hd (ps_st s i) ∧ M i = ps_mi M (ps_st s i) + g i) ∨
  (s i = 3 ∧ K i = 4 ∧ L i = 0 ∧ ps_st s i ≠ [])
/-- the end of the group that begins at piece o -/
def ps_cl (P : Nat) (s C : Nat → Int32) (o : Nat) : Prop :=
  s o = 2 → (o ∈ ps_st s P ∧ C o = 60) ∨ (¬ o ∈ ps_st s P ∧ ∃ c : Nat, o < c ∧ c < P ∧ C o = nI c ∧ s c = 3 ∧ ∃ t : List Nat, ps_st s c = o :: t)
def ps_D (P : Nat) (s g K L G C M : Nat → Int32) : Prop :=
  (∀ i, i < P → ps_pc s g K L G M i) ∧ (∀ o, o < P → ps_cl P s C o)
theorem ps_pcm {P : Nat} {s g K L G M s' g' K' L' G' M' : Nat → Int32} (hs : ∀ j, j < P → s' j = s j) (hg : ∀ j, j < P → g' j = g j) (hK : ∀ j, j < P → K' j = K j) (hL : ∀ j, j < P → L' j = L j) (hG : ∀ j, j < P → G' j = G j) (hM : ∀ j, j < P → M' j = M j) {i : Nat} (hi : i < P) (h : ps_pc s g K L G M i) : ps_pc s' g' K' L' G' M' i := by
  have e : ps_st s' i = ps_st s i := ps_congr i (fun j hj => hs j (by omega))
  have em : ps_mi M' (ps_st s i) = ps_mi M (ps_st s i) := ps_mim (fun j hj => hM j (by omega))
  unfold ps_pc at h ⊢
  rw [hs i hi, hg i hi, hK i hi, hL i hi, hG i hi, hM i hi, e, em]
  exact h
theorem ps_clm {P o : Nat} {s s' C C' : Nat → Int32} (hs : ∀ j, j < P → s' j = s j) (ho : o < P) (hC : C' o = C o) (hm : o ∈ ps_st s' (P + 1) ↔ o ∈ ps_st s P) (h : ps_cl P s C o) : ps_cl (P + 1) s' C' o := by
  intro h2
  rw [hs o ho] at h2
  rcases h h2 with ⟨m, e⟩ | ⟨m, c, a, b, e, s3, t, et⟩
  · exact Or.inl ⟨hm.mpr m, by rw [hC, e]⟩
  · refine Or.inr ⟨fun z => m (hm.mp z), c, a, by omega, by rw [hC, e], by rw [hs c b]; exact s3, t, ?_⟩
    rw [ps_congr c (fun j hj => hs j (by omega))]
    exact et
theorem ps_uP {s : Nat → Int32} {P : Nat} {x : Int32} : ps_st (upd s P x) P = ps_st s P := ps_congr P (fun _ hj => ps_ul hj)
theorem ps_uW {s : Nat → Int32} {P : Nat} {x : Int32} (h2 : ¬ x = 2) (h3 : ¬ x = 3) : ps_st (upd s P x) (P + 1) = ps_st s P := by
  rw [ps_stn (by rw [ps_us]; exact h2) (by rw [ps_us]; exact h3), ps_uP]
theorem ps_uO {s : Nat → Int32} {P : Nat} : ps_st (upd s P 2) (P + 1) = P :: ps_st s P := by
  rw [ps_st2 ps_us, ps_uP]
theorem ps_uC {s : Nat → Int32} {P : Nat} : ps_st (upd s P 3) (P + 1) = (ps_st s P).tail := by
  rw [ps_st3 ps_us, ps_uP]
theorem ps_addW {P : Nat} {s g K L G C M : Nat → Int32} (D : ps_D P s g K L G C M) (x y : Int32) : ps_D (P + 1) (upd s P 0) (upd g P x) (upd K P 1) (upd L P x) (upd G P y) C M := by
  refine ⟨fun i hi => ?_, fun o ho => ?_⟩
  · by_cases e : i = P
    · subst e
      exact Or.inl ⟨ps_us, ps_us, by rw [ps_us, ps_us]⟩
    · have hi' : i < P := by omega
      exact ps_pcm (fun _ h => ps_ul h) (fun _ h => ps_ul h) (fun _ h => ps_ul h) (fun _ h => ps_ul h) (fun _ h => ps_ul h) (fun _ _ => rfl) hi' (D.1 i hi')
  · by_cases e : o = P
    · subst e
      intro h
      rw [ps_us] at h
      exact absurd h (by decide)
    · have ho' : o < P := by omega
      exact ps_clm (fun _ h => ps_ul h) ho' rfl (by rw [ps_uW (by decide) (by decide)]) (D.2 o ho')
theorem ps_addB {P : Nat} {s g K L G C M : Nat → Int32} (D : ps_D P s g K L G C M) (x : Int32) : ps_D (P + 1) (upd s P 1) (upd g P x) (upd K P 2) (upd L P 1) (upd G P (ps_hd (ps_st s P))) C M := by
  refine ⟨fun i hi => ?_, fun o ho => ?_⟩
  · by_cases e : i = P
    · subst e
      exact Or.inr (Or.inl ⟨ps_us, ps_us, ps_us, by rw [ps_us, ps_uP]⟩)
    · have hi' : i < P := by omega
      exact ps_pcm (fun _ h => ps_ul h) (fun _ h => ps_ul h) (fun _ h => ps_ul h) (fun _ h => ps_ul h) (fun _ h => ps_ul h) (fun _ _ => rfl) hi' (D.1 i hi')
  · by_cases e : o = P
    · subst e
      intro h
      rw [ps_us] at h
      exact absurd h (by decide)
    · have ho' : o < P := by omega
      exact ps_clm (fun _ h => ps_ul h) ho' rfl (by rw [ps_uW (by decide) (by decide)]) (D.2 o ho')
theorem ps_addO {P : Nat} {s g K L G C M : Nat → Int32} (D : ps_D P s g K L G C M) (x : Int32) : ps_D (P + 1) (upd s P 2) (upd g P x) (upd K P 3) (upd L P 0) (upd G P (ps_hd (ps_st s P))) (upd C P 60) (upd M P (ps_mi M (ps_st s P) + x)) := by
  refine ⟨fun i hi => ?_, fun o ho => ?_⟩
  · by_cases e : i = P
    · subst e
      refine Or.inr (Or.inr (Or.inl ⟨ps_us, ps_us, ps_us, by rw [ps_us, ps_uP], ?_⟩))
      rw [ps_us, ps_us, ps_uP, ps_mim (fun _ h => ps_ul h)]
    · have hi' : i < P := by omega
      exact ps_pcm (fun _ h => ps_ul h) (fun _ h => ps_ul h) (fun _ h => ps_ul h) (fun _ h => ps_ul h) (fun _ h => ps_ul h) (fun _ h => ps_ul h) hi' (D.1 i hi')
  · by_cases e : o = P
    · subst e
      intro _
      exact Or.inl ⟨by rw [ps_uO]; exact List.mem_cons.mpr (Or.inl rfl), ps_us⟩
    · have ho' : o < P := by omega
      refine ps_clm (fun _ h => ps_ul h) ho' (ps_un e) ?_ (D.2 o ho')
      rw [ps_uO]
      exact ⟨fun m => (List.mem_cons.mp m).resolve_left e, fun m => List.mem_cons.mpr (Or.inr m)⟩
theorem ps_addC {P h : Nat} {t : List Nat} {s g K L G C M : Nat → Int32} (D : ps_D P s g K L G C M) (hst : ps_st s P = h :: t) (x y : Int32) : ps_D (P + 1) (upd s P 3) (upd g P x) (upd K P 4) (upd L P 0) (upd G P y) (upd C h (nI P)) M := by
  obtain ⟨ht, hh, _⟩ := ps_A' hst
  have hu : ps_st (upd s P 3) (P + 1) = t := by rw [ps_uC, hst]; rfl
  refine ⟨fun i hi => ?_, fun o ho => ?_⟩
  · by_cases e : i = P
    · subst e
      exact Or.inr (Or.inr (Or.inr ⟨ps_us, ps_us, ps_us, by rw [ps_uP, hst]; exact fun z => nomatch z⟩))
    · have hi' : i < P := by omega
      exact ps_pcm (fun _ h => ps_ul h) (fun _ h => ps_ul h) (fun _ h => ps_ul h) (fun _ h => ps_ul h) (fun _ h => ps_ul h) (fun _ _ => rfl) hi' (D.1 i hi')
  · by_cases e : o = P
    · subst e
      intro h
      rw [ps_us] at h
      exact absurd h (by decide)
    · have ho' : o < P := by omega
      by_cases eh : o = h
      · subst eh
        intro _
        refine Or.inr ⟨?_, P, ho', by omega, ps_us, ps_us, t, by rw [ps_uP]; exact hst⟩
        rw [hu, ht]
        intro m
        have := (ps_mem o o m).1
        omega
      · refine ps_clm (fun _ h => ps_ul h) ho' (ps_un eh) ?_ (D.2 o ho')
        rw [hu, hst]
        exact ⟨fun m => List.mem_cons.mpr (Or.inr m), fun m => (List.mem_cons.mp m).resolve_left eh⟩
/-- what the reach of the group that begins at piece o needs -/
theorem ps_clo {P o : Nat} {s C : Nat → Int32} (hP : P ≤ 60) (ho : o < P) (h : ps_cl P s C o) (h2 : s o = 2) : ∃ c : Nat, C o = nI c ∧ c ≤ 60 ∧ o < c ∧ (∀ i, o < i → i ≤ c → i ≤ P → o ∈ ps_st s i) ∧ (c < P → s c = 3 ∧ (ps_st s c).length = (ps_st s o).length + 1) := by
  rcases h h2 with ⟨m, e⟩ | ⟨_, c, a, b, e, s3, t, et⟩
  · exact ⟨60, e, by omega, by omega, fun i hi _ hP' => ps_M (P - i) i P (by omega) hi m, fun h => by omega⟩
  · refine ⟨c, e, by omega, a, fun i hi hc _ => ps_M (c - i) i c (by omega) hi (by rw [et]; exact List.mem_cons.mpr (Or.inl rfl)), fun _ => ⟨s3, ?_⟩⟩
    rw [et, List.length_cons, (ps_A' et).1]
/-- the stacks of flats and margins over the stack of begun groups -/
def ps_al (F M fl mr : Nat → Int32) : List Nat → Prop
  | [] => True
  | o :: t => fl t.length = F o ∧ mr t.length = M o ∧ ps_al F M fl mr t
theorem ps_alm {F M fl mr F' fl' mr' : Nat → Int32} : ∀ l : List Nat, (∀ o, o ∈ l → F' o = F o) → (∀ j, j < l.length → fl' j = fl j ∧ mr' j = mr j) → ps_al F M fl mr l → ps_al F' M fl' mr' l := by
  intro l
  induction l with
  | nil => intro _ _ _; trivial
  | cons o t ih =>
    intro hF hj h
    have hl : t.length < (o :: t).length := by rw [List.length_cons]; omega
    refine ⟨?_, ?_, ih (fun x hx => hF x (List.mem_cons.mpr (Or.inr hx))) (fun j h' => hj j (by omega)) h.2.2⟩
    · rw [(hj _ hl).1, hF o (List.mem_cons.mpr (Or.inl rfl))]; exact h.1
    · rw [(hj _ hl).2]; exact h.2.1
theorem ps_alO {F M fl mr s : Nat → Int32} {i : Nat} (b m : Int32) (hm : M i = m) (h : ps_al F M fl mr (ps_st s i)) : ps_al (upd F i b) M (upd fl (ps_st s i).length b) (upd mr (ps_st s i).length m) (i :: ps_st s i) := by
  refine ⟨by rw [ps_us, ps_us], by rw [ps_us, hm], ps_alm _ (fun o ho => ps_ul (ps_mem i o ho).1) (fun j hj => ⟨ps_ul hj, ps_ul hj⟩) h⟩
theorem ps_alC {F M fl mr : Nat → Int32} : ∀ l : List Nat, ps_al F M fl mr l → ps_al F M fl mr l.tail
  | [], _ => trivial
  | _ :: _, h => h.2.2
end PSA
