section PSH
/-- the two states hold the same document, width and last laying out -/
def ps_Rl (u : SX) (v : SY) : Prop := ∃ (P : Nat) (w a b c d e f : Int32) (K L G C M R Q F s g fl mr : Nat → Int32), u = (nI P, ps_hd (ps_st s P), nI (ps_st s P).length, w, a, b, c, K, L, G, C, M, R, Q, F) ∧ v = (w, nI P, d, e, f, s, g, fl, mr, R, Q, F) ∧ P ≤ 60 ∧ (ps_st s P).length ≤ 12 ∧ ps_D P s g K L G C M
theorem ps_mk {P : Nat} {inn unc w a b c d e f : Int32} {K L G C M R Q F s g fl mr : Nat → Int32} (h1 : inn = ps_hd (ps_st s P)) (h2 : unc = nI (ps_st s P).length) (hP : P ≤ 60) (hl : (ps_st s P).length ≤ 12) (D : ps_D P s g K L G C M) : ps_Rl (nI P, inn, unc, w, a, b, c, K, L, G, C, M, R, Q, F) (w, nI P, d, e, f, s, g, fl, mr, R, Q, F) := by
  subst h1 h2
  exact ⟨P, w, a, b, c, d, e, f, K, L, G, C, M, R, Q, F, s, g, fl, mr, rfl, rfl, hP, hl, D⟩
def i_Rel (k : Nat) (u : SX) (v : SY) : Prop := ps_Rl u v
theorem i_up {k : Nat} {u : SX} {v : SY} (h : i_Rel k u v) : i_Rel (k + 2) u v := h
theorem ps_D0 {s g K L G C M : Nat → Int32} : ps_D 0 s g K L G C M := ⟨fun i h => absurd h (by omega), fun i h => absurd h (by omega)⟩
theorem i_vc0 (k0 : Int32) : wpX_init (fun u => wpY_init (fun v => i_Rel 1 u v) k0) k0 := by
  unfold wpX_init
  refine ps_xwl ?_
  unfold wpY_init
  refine ps_ywd ?_
  exact ps_mk (P := 0) rfl rfl (by omega) (Nat.zero_le _) ps_D0
theorem i_vc_word {k : Nat} {u : SX} {v : SY} (I : i_Rel k u v) (hk : k + 2 ≤ 1025) (v1 : Int32) : wpX_word (fun r u' => wpY_word (fun r' v' => r' = r ∧ i_Rel (k + 2) u' v') v v1) u v1 := by
  obtain ⟨P, w, a, b, c, d, e, f, K, L, G, C, M, R, Q, F, s, g, fl, mr, rfl, rfl, hP, hl, D⟩ := I
  by_cases h1 : v1 < 1
  · exact br_t h1 (br_t h1 ⟨rfl, ps_mk rfl rfl hP hl D⟩)
  · by_cases h2 : 20 < v1
    · exact br_f h1 (br_t h2 (br_f h1 (br_f (Int32.not_le.mpr h2) ⟨rfl, ps_mk rfl rfl hP hl D⟩)))
    · have h2' : v1 ≤ 20 := Int32.not_lt.mp h2
      by_cases h3 : P < 60
      · refine br_f h1 (br_f h2 (ps_xnf h3 (br_t rfl (ps_xadd h3 (br_f h1 (br_t h2' (ps_yadd h3 ⟨rfl, ps_mk ?_ ?_ (by omega) ?_ (ps_addW D _ _)⟩)))))))
        · rw [ps_uW (by decide) (by decide)]
        · rw [ps_uW (by decide) (by decide)]
        · rw [ps_uW (by decide) (by decide)]; exact hl
      · exact br_f h1 (br_f h2 (ps_xf (by omega) hP (br_f ps_10 (br_f h1 (br_t h2' (ps_yad6 (by omega) ⟨rfl, ps_mk rfl rfl hP hl D⟩))))))
theorem i_vc_lineBreak {k : Nat} {u : SX} {v : SY} (I : i_Rel k u v) (hk : k + 2 ≤ 1025) : wpX_lineBreak (fun r u' => wpY_lineBreak (fun r' v' => r' = r ∧ i_Rel (k + 2) u' v') v) u := by
  obtain ⟨P, w, a, b, c, d, e, f, K, L, G, C, M, R, Q, F, s, g, fl, mr, rfl, rfl, hP, hl, D⟩ := I
  unfold wpX_lineBreak wpY_lineBreak
  dsimp only
  by_cases h3 : P < 60
  · refine ps_xnf h3 (br_t rfl (ps_xadd h3 ?_))
    refine ps_yadd h3 ⟨rfl, ps_mk ?_ ?_ (by omega) ?_ (ps_addB D _)⟩
    · rw [ps_uW (by decide) (by decide)]
    · rw [ps_uW (by decide) (by decide)]
    · rw [ps_uW (by decide) (by decide)]; exact hl
  · refine ps_xf (by omega) hP (br_f ps_10 ?_)
    exact ps_yad6 (by omega) ⟨rfl, ps_mk rfl rfl hP hl D⟩
theorem i_vc_open {k : Nat} {u : SX} {v : SY} (I : i_Rel k u v) (hk : k + 2 ≤ 1025) (v1 : Int32) : wpX_open (fun r u' => wpY_open (fun r' v' => r' = r ∧ i_Rel (k + 2) u' v') v v1) u v1 := by
  obtain ⟨P, w, a, b, c, d, e, f, K, L, G, C, M, R, Q, F, s, g, fl, mr, rfl, rfl, hP, hl, D⟩ := I
  by_cases h1 : v1 < 0
  · exact br_t h1 (br_t h1 ⟨rfl, ps_mk rfl rfl hP hl D⟩)
  · by_cases h2 : 8 < v1
    · exact br_f h1 (br_t h2 (br_f h1 (br_t h2 ⟨rfl, ps_mk rfl rfl hP hl D⟩)))
    · have ek : (nI P).toNatClampNeg = P := ps_ck (by omega)
      by_cases h3 : P < 60
      · by_cases h4 : (ps_st s P).length < 12
        · have n12 : ¬ nI (ps_st s P).length = 12 := fun z => absurd ((nI_eq (b := 12) (by omega) (by decide)).mp z) (by omega)
          refine br_f h1 (br_f h2 (ps_xnf h3 (br_t rfl (br_t (nI_lt (b := 12) h4 (by decide)) ?_))))
          refine ps_xmi (ps_hl hP) ⟨ps_in h3, nm_r (e' := upd M P (ps_mi M (ps_st s P) + v1)) (by rw [ek]) ⟨ps_in h3, nm_r (e' := upd C P 60) (by rw [ek]) (ps_xadd h3 (nm_r (nI_1 _) ?_))⟩⟩
          refine br_f h1 (br_f h2 (ps_ywt hP D (br_f n12 (ps_yadd h3 ⟨rfl, ps_mk ?_ ?_ (by omega) ?_ (ps_addO D _)⟩))))
          · rw [ps_uO]; rfl
          · rw [ps_uO, List.length_cons]
          · rw [ps_uO, List.length_cons]; omega
        · have e12 : nI (ps_st s P).length = 12 := (nI_eq (b := 12) (by omega) (by decide)).mpr (by omega)
          exact br_f h1 (br_f h2 (ps_xnf h3 (br_t rfl (br_f (nI_nlt (b := 12) (by omega) (by omega)) (br_f h1 (br_f h2 (ps_ywt hP D (br_t e12 ⟨rfl, ps_mk rfl rfl hP hl D⟩))))))))
      · refine br_f h1 (br_f h2 (ps_xf (by omega) hP (br_f ps_10 (br_f h1 (br_f h2 (ps_ywt hP D (br_c (fun _ => ⟨rfl, ps_mk rfl rfl hP hl D⟩) (fun _ => ps_yad6 (by omega) ⟨rfl, ps_mk rfl rfl hP hl D⟩))))))))
theorem i_vc_close {k : Nat} {u : SX} {v : SY} (I : i_Rel k u v) (hk : k + 2 ≤ 1025) : wpX_close (fun r u' => wpY_close (fun r' v' => r' = r ∧ i_Rel (k + 2) u' v') v) u := by
  obtain ⟨P, w, a, b, c, d, e, f, K, L, G, C, M, R, Q, F, s, g, fl, mr, rfl, rfl, hP, hl, D⟩ := I
  have hlen := ps_len (s := s) P
  cases hst : ps_st s P with
  | nil =>
    refine br_t rfl ?_
    unfold wpY_close
    dsimp only
    exact ps_ywt hP D (br_t (by rw [hst]; rfl) ⟨rfl, ps_mk (by rw [hst]) (by rw [hst]) hP hl D⟩)
  | cons h t =>
    obtain ⟨ht, hh, hs2⟩ := ps_A' hst
    have eh : (ps_hd (h :: t)).toNatClampNeg = h := ps_ck (n := h) (by omega)
    have hw0 : ¬ nI (ps_st s P).length = 0 := by
      rw [hst, List.length_cons]
      exact nI_ne0 (by omega) (by rw [hst, List.length_cons] at hlen; omega)
    refine br_f (ps_ne1 (by omega)) ?_
    by_cases h3 : P < 60
    · have hG : G h = ps_hd t := by
        rcases D.1 h hh with ⟨z, _⟩ | ⟨z, _⟩ | ⟨_, _, _, z, _⟩ | ⟨z, _⟩
        · rw [hs2] at z; exact absurd z (by decide)
        · rw [hs2] at z; exact absurd z (by decide)
        · rw [z, ht]
        · rw [hs2] at z; exact absurd z (by decide)
      have hu : ps_st (upd s P 3) (P + 1) = t := by rw [ps_uC, hst]; rfl
      refine ps_xnf h3 (br_t rfl ⟨ps_in (n := h) (by omega), nm_r (e' := upd C h (nI P)) (by rw [eh]) ⟨ps_in (n := h) (by omega), nm_r (e' := ps_hd t) (by rw [eh, hG]) (nm_r (e' := nI t.length) (by rw [List.length_cons, nI_pred]) (ps_xadd h3 ?_))⟩⟩)
      unfold wpY_close
      dsimp only
      refine ps_ywt hP D (br_f hw0 (ps_yadd h3 ⟨rfl, ps_mk ?_ ?_ (by omega) ?_ (ps_addC D hst _ _)⟩))
      · rw [hu]
      · rw [hu]
      · rw [hu]; rw [hst, List.length_cons] at hl; omega
    · refine ps_xf (by omega) hP (br_f ps_10 ?_)
      unfold wpY_close
      dsimp only
      exact ps_ywt hP D (br_f hw0 (ps_yad6 (by omega) ⟨rfl, ps_mk (by rw [hst]) (by rw [hst]) hP hl D⟩))
theorem i_vc_width {k : Nat} {u : SX} {v : SY} (I : i_Rel k u v) (hk : k + 2 ≤ 1025) (v1 : Int32) : wpX_width (fun u' => wpY_width (fun v' => i_Rel (k + 2) u' v') v v1) u v1 := by
  obtain ⟨P, w, a, b, c, d, e, f, K, L, G, C, M, R, Q, F, s, g, fl, mr, rfl, rfl, hP, hl, D⟩ := I
  unfold wpX_width
  dsimp only
  refine ps_xwl ?_
  exact ps_ywd (ps_mk rfl rfl hP hl D)
theorem i_vc_row {k : Nat} {u : SX} {v : SY} (I : i_Rel k u v) (hk : k + 2 ≤ 1025) (v1 : Int32) : wpX_row (fun r u' => wpY_row (fun r' v' => r' = r ∧ i_Rel (k + 2) u' v') v v1) u v1 := by
  obtain ⟨P, w, a, b, c, d, e, f, K, L, G, C, M, R, Q, F, s, g, fl, mr, rfl, rfl, hP, hl, D⟩ := I
  unfold wpX_row wpY_row
  dsimp only
  rcases ps_ix P hP v1 with hn | ⟨j, hj, rfl⟩
  · refine ps_xpn hn (br_t rfl ?_)
    exact ps_ypn hn (br_f ps_10 ⟨rfl, ps_mk rfl rfl hP hl D⟩)
  · refine ps_xpy hP hj (br_f ps_10 (ps_xly hP D ⟨ps_in (by omega), ?_⟩))
    exact ps_ypy hP hj (br_t rfl (ps_yly hP D (fun n fl' mr' => ⟨ps_in (by omega), rfl, ps_mk rfl rfl hP hl D⟩)))
theorem i_vc_column {k : Nat} {u : SX} {v : SY} (I : i_Rel k u v) (hk : k + 2 ≤ 1025) (v1 : Int32) : wpX_column (fun r u' => wpY_column (fun r' v' => r' = r ∧ i_Rel (k + 2) u' v') v v1) u v1 := by
  obtain ⟨P, w, a, b, c, d, e, f, K, L, G, C, M, R, Q, F, s, g, fl, mr, rfl, rfl, hP, hl, D⟩ := I
  unfold wpX_column wpY_column
  dsimp only
  rcases ps_ix P hP v1 with hn | ⟨j, hj, rfl⟩
  · refine ps_xpn hn (br_t rfl ?_)
    exact ps_ypn hn (br_f ps_10 ⟨rfl, ps_mk rfl rfl hP hl D⟩)
  · refine ps_xpy hP hj (br_f ps_10 (ps_xly hP D ⟨ps_in (by omega), ?_⟩))
    exact ps_ypy hP hj (br_t rfl (ps_yly hP D (fun n fl' mr' => ⟨ps_in (by omega), rfl, ps_mk rfl rfl hP hl D⟩)))
theorem i_vc_flat {k : Nat} {u : SX} {v : SY} (I : i_Rel k u v) (hk : k + 2 ≤ 1025) (v1 : Int32) : wpX_flat (fun r u' => wpY_flat (fun r' v' => r' = r ∧ i_Rel (k + 2) u' v') v v1) u v1 := by
  obtain ⟨P, w, a, b, c, d, e, f, K, L, G, C, M, R, Q, F, s, g, fl, mr, rfl, rfl, hP, hl, D⟩ := I
  unfold wpX_flat wpY_flat
  dsimp only
  rcases ps_ix P hP v1 with hn | ⟨j, hj, rfl⟩
  · refine ps_xpn hn (br_t rfl ?_)
    exact ps_ypn hn (br_f ps_10 ⟨rfl, ps_mk rfl rfl hP hl D⟩)
  · have ek : (nI j).toNatClampNeg = j := ps_ck (by omega)
    have h6 : j < 60 := by omega
    refine ps_xpy hP hj (br_f ps_10 ⟨ps_in h6, ?_⟩)
    by_cases h2 : s j = 2
    · have hK : K (nI j).toNatClampNeg = 3 := by rw [ek]; exact (ps_K3 D j hj).mpr h2
      have hS : s (nI j).toNatClampNeg = 2 := by rw [ek]; exact h2
      refine br_t hK (ps_xly hP D ⟨ps_in h6, ?_⟩)
      refine br_c (fun z => ?_) (fun z => ?_)
      · exact ps_ypy hP hj (br_t rfl ⟨ps_in h6, br_t hS (ps_yly hP D (fun n fl' mr' => ⟨ps_in h6, br_t z ⟨rfl, ps_mk rfl rfl hP hl D⟩⟩))⟩)
      · exact ps_ypy hP hj (br_t rfl ⟨ps_in h6, br_t hS (ps_yly hP D (fun n fl' mr' => ⟨ps_in h6, br_f z ⟨rfl, ps_mk rfl rfl hP hl D⟩⟩))⟩)
    · have hK : ¬ K (nI j).toNatClampNeg = 3 := by rw [ek]; exact fun z => h2 ((ps_K3 D j hj).mp z)
      have hS : ¬ s (nI j).toNatClampNeg = 2 := by rw [ek]; exact h2
      refine br_f hK ?_
      exact ps_ypy hP hj (br_t rfl ⟨ps_in h6, br_f hS ⟨rfl, ps_mk rfl rfl hP hl D⟩⟩)
theorem i_vc_rows {k : Nat} {u : SX} {v : SY} (I : i_Rel k u v) (hk : k + 2 ≤ 1025) : wpX_rows (fun r u' => wpY_rows (fun r' v' => r' = r ∧ i_Rel (k + 2) u' v') v) u := by
  obtain ⟨P, w, a, b, c, d, e, f, K, L, G, C, M, R, Q, F, s, g, fl, mr, rfl, rfl, hP, hl, D⟩ := I
  unfold wpX_rows wpY_rows
  dsimp only
  refine ps_xly hP D ?_
  exact ps_yly hP D (fun n fl' mr' => ⟨rfl, ps_mk rfl rfl hP hl D⟩)
theorem i_vc_widest {k : Nat} {u : SX} {v : SY} (I : i_Rel k u v) (hk : k + 2 ≤ 1025) : wpX_widest (fun r u' => wpY_widest (fun r' v' => r' = r ∧ i_Rel (k + 2) u' v') v) u := by
  obtain ⟨P, w, a, b, c, d, e, f, K, L, G, C, M, R, Q, F, s, g, fl, mr, rfl, rfl, hP, hl, D⟩ := I
  unfold wpX_widest wpY_widest
  dsimp only
  refine ps_xly hP D ?_
  exact ps_yly hP D (fun n fl' mr' => ⟨rfl, ps_mk rfl rfl hP hl D⟩)
theorem i_vc_leastWidth {k : Nat} {u : SX} {v : SY} (I : i_Rel k u v) (hk : k + 2 ≤ 1025) (v1 : Int32) : wpX_leastWidth (fun r u' => wpY_leastWidth (fun r' v' => r' = r ∧ i_Rel (k + 2) u' v') v v1) u v1 := by
  obtain ⟨P, w, a, b, c, d, e, f, K, L, G, C, M, R, Q, F, s, g, fl, mr, rfl, rfl, hP, hl, D⟩ := I
  refine ⟨101, ps_xlw hP D 100 1 _ _ _ _ _ _ (by omega) (fun a' b' c' => ?_)⟩
  exact ⟨101, ps_ylw hP D 100 1 _ _ _ _ _ _ _ _ (by omega) (fun d' e' f' fl' mr' => ⟨rfl, ps_mk rfl rfl hP hl D⟩)⟩
end PSH
