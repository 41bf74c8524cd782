/-! the numbers of points and lines, the bounds -/
theorem sn_ti0 : (0 : Int32).toInt = 0 := by decide
theorem sn_ng {n : Nat} {x : Int32} (hn : n < 2 ^ 31) (h : nI n ≤ x) : ¬ x < 0 := by
  rw [Int32.le_iff_toInt_le, nI_toInt hn] at h
  rw [Int32.lt_iff_toInt_lt, sn_ti0]
  omega
theorem sn_g9 {x : Int32} (h : nI 10 ≤ x) : 9 < x := by
  have e : (9 : Int32).toInt = 9 := by decide
  rw [Int32.le_iff_toInt_le, nI_toInt (by decide)] at h
  rw [Int32.lt_iff_toInt_lt, e]
  omega
theorem sn_g6 {x : Int32} (h : nI 7 ≤ x) : ¬ x ≤ 6 := by
  have e : (6 : Int32).toInt = 6 := by decide
  rw [Int32.le_iff_toInt_le, nI_toInt (by decide)] at h
  rw [Int32.le_iff_toInt_le, e]
  omega
theorem sn_pr {x : Int32} (h1 : ¬ x < 1) (h2 : x ≤ 100) : 0 ≤ x.toInt ∧ x.toInt ≤ 100 := by
  have e1 : (1 : Int32).toInt = 1 := by decide
  have e2 : (100 : Int32).toInt = 100 := by decide
  rw [Int32.lt_iff_toInt_lt, e1] at h1
  rw [Int32.le_iff_toInt_le, e2] at h2
  omega
theorem sn_nb (v : Int32) : vp_nar .boolean (lw_bz v) = lw_bz v := by
  unfold vp_nar
  rw [lw_bz_n]
theorem sn_nb1 : vp_nar .boolean 1 = 1 := by
  have h := sn_nb 1
  rw [show lw_bz 1 = 1 by decide] at h
  exact h
theorem sn_nb0 : vp_nar .boolean 0 = 0 := by
  have h := sn_nb 0
  rw [show lw_bz 0 = 0 by decide] at h
  exact h
theorem sn_pt (x : Int32) : (∃ j, j < 7 ∧ x = nI j ∧ (∀ post : Int32 → Prop, post 1 → wpX_isPoint post x) ∧ (∀ post : Int32 → Prop, post 0 → wpY_badPoint post x)) ∨ ((∀ post : Int32 → Prop, post 0 → wpX_isPoint post x) ∧ (∀ post : Int32 → Prop, post 1 → wpY_badPoint post x)) := by
  rcases pk_ix x (n := 7) (by decide) with h | h | ⟨j, hj, rfl⟩
  · exact Or.inr ⟨fun _ hp => br_t h hp, fun _ hp => br_t h hp⟩
  · have h0 := sn_ng (by decide) h
    exact Or.inr ⟨fun _ hp => br_f h0 (br_t h hp), fun _ hp => br_f h0 (br_f (sn_g6 h) hp)⟩
  · have h0 : ¬ nI j < 0 := nI_pos (by omega)
    have h7 : ¬ (7 : Int32) ≤ nI j := nI_ge (b := 7) hj (by decide)
    have h6 : nI j ≤ (6 : Int32) := nI_le (b := 6) (by omega) (by decide)
    exact Or.inl ⟨j, hj, rfl, fun _ hp => br_f h0 (br_f h7 hp), fun _ hp => br_f h0 (br_t h6 hp)⟩
theorem sn_ln (x : Int32) : (∃ j, j < 10 ∧ x = nI j ∧ (∀ post : Int32 → Prop, post 1 → wpX_isLineNumber post x) ∧ ¬ x < 0 ∧ ¬ 9 < x) ∨ ((∀ post : Int32 → Prop, post 0 → wpX_isLineNumber post x) ∧ (x < 0 ∨ (¬ x < 0 ∧ 9 < x))) := by
  rcases pk_ix x (n := 10) (by decide) with h | h | ⟨j, hj, rfl⟩
  · exact Or.inr ⟨fun _ hp => br_t h hp, Or.inl h⟩
  · have h0 := sn_ng (by decide) h
    exact Or.inr ⟨fun _ hp => br_f h0 (br_t h hp), Or.inr ⟨h0, sn_g9 h⟩⟩
  · have h0 : ¬ nI j < 0 := nI_pos (by omega)
    have h10 : ¬ (10 : Int32) ≤ nI j := nI_ge (b := 10) hj (by decide)
    have h9 : ¬ (9 : Int32) < nI j := nI_nlt (a := 9) (by omega) (by decide)
    exact Or.inl ⟨j, hj, rfl, fun _ hp => br_f h0 (br_f h10 hp), h0, h9⟩
theorem sn_lt {L M : Int32} {E P T F O K : Nat → Int32} (R : sn_R L M E P T F O K) (x : Int32) : (∃ j, j < 10 ∧ x = nI j ∧ bt L j = true ∧ (∀ post : Int32 → Prop, post 1 → wpX_isLineThere post (L, M, E, P) x) ∧ (∀ post : Int32 → Prop, post 0 → wpY_badLine post (T, F, O, P, K) x)) ∨ ((∀ post : Int32 → Prop, post 0 → wpX_isLineThere post (L, M, E, P) x) ∧ (∀ post : Int32 → Prop, post 1 → wpY_badLine post (T, F, O, P, K) x)) := by
  rcases sn_ln x with ⟨j, hj, rfl, hX, h0, h9⟩ | ⟨hX, hY⟩
  · have hi : vp_in (nI j) 10 := vp_in_nI hj (by decide)
    have et : T (nI j).toNatClampNeg = sn_v (bt L j) := by rw [nI_clamp (by omega), R.1 j hj]
    cases hb : bt L j
    · rw [hb] at et
      refine Or.inr ⟨fun post hp => ?_, fun post hp => ?_⟩
      · unfold wpX_isLineThere
        dsimp only
        refine hX _ ?_
        exact br_f sn_n1 (br_f (sn_bn (by omega) hb) hp)
      · exact br_f h0 (br_f h9 ⟨hi, br_t et hp⟩)
    · rw [hb] at et
      refine Or.inl ⟨j, hj, rfl, hb, fun post hp => ?_, fun post hp => ?_⟩
      · unfold wpX_isLineThere
        dsimp only
        refine hX _ ?_
        exact br_f sn_n1 (br_t (sn_by (by omega) hb) hp)
      · exact br_f h0 (br_f h9 ⟨hi, br_f (by rw [et]; decide) hp⟩)
  · refine Or.inr ⟨fun post hp => ?_, fun post hp => ?_⟩
    · unfold wpX_isLineThere
      dsimp only
      refine hX _ ?_
      exact br_t rfl hp
    · rcases hY with h | ⟨h0, h9⟩
      · exact br_t h hp
      · exact br_f h0 (br_t h9 hp)
/-! the relation after line, cut and mark -/
theorem sn_Rline {L M : Int32} {E P T F O K : Nat → Int32} (R : sn_R L M E P T F O K) {j : Nat} (hj : j < 10) (a b v : Int32) (hv : 0 ≤ v.toInt ∧ v.toInt ≤ 100) : sn_R (L ||| ((1 : Int32) <<< (nI j &&& 31))) M (upd E j (((1 : Int32) <<< (a &&& 31)) ||| ((1 : Int32) <<< (b &&& 31)))) (upd P j v) (upd T j 1) (upd F j a) (upd O j b) K := by
  obtain ⟨hT, hE, hP, hK, hK2⟩ := R
  refine ⟨fun k hk => ?_, fun k hk hb => ?_, fun k hk => ?_, hK, hK2⟩
  · rw [sn_set L j (by omega) (by omega)]
    by_cases e : k = j
    · subst e
      rw [pk_us, decide_eq_true rfl, Bool.or_true]
      rfl
    · rw [pk_un e, decide_eq_false e, Bool.or_false]
      exact hT k hk
  · by_cases e : k = j
    · subst e
      unfold sn_E
      rw [pk_us, pk_us, pk_us]
    · rw [sn_set L j (by omega) (by omega), decide_eq_false e, Bool.or_false] at hb
      unfold sn_E
      rw [pk_un e, pk_un e, pk_un e]
      exact hE k hk hb
  · by_cases e : k = j
    · subst e
      rw [pk_us]
      exact hv
    · rw [pk_un e]
      exact hP k hk
theorem sn_Rcut {L M : Int32} {E P T F O K : Nat → Int32} (R : sn_R L M E P T F O K) {j : Nat} (hj : j < 10) : sn_R (L &&& (((1 : Int32) <<< (nI j &&& 31)) ^^^ (-1))) M E P (upd T j 0) F O K := by
  obtain ⟨hT, hE, hP, hK, hK2⟩ := R
  refine ⟨fun k hk => ?_, fun k hk hb => ?_, hP, hK, hK2⟩
  · rw [sn_clr L j (by omega) (by omega)]
    by_cases e : k = j
    · subst e
      rw [pk_us, decide_eq_true rfl, Bool.not_true, Bool.and_false]
      rfl
    · rw [pk_un e, decide_eq_false e, Bool.not_false, Bool.and_true]
      exact hT k hk
  · rw [sn_clr L j (by omega) (by omega)] at hb
    exact hE k hk (Bool.and_eq_true_iff.mp hb).1
theorem sn_Rset {L M : Int32} {E P T F O K : Nat → Int32} (R : sn_R L M E P T F O K) {j : Nat} (hj : j < 7) : sn_R L (M ||| ((1 : Int32) <<< (nI j &&& 31))) E P T F O (upd K j 1) := by
  obtain ⟨hT, hE, hP, hK, hK2⟩ := R
  refine ⟨hT, hE, hP, fun k hk => ?_, fun i h7 hi => ?_⟩
  · rw [sn_set M j (by omega) (by omega)]
    by_cases e : k = j
    · subst e
      rw [pk_us, decide_eq_true rfl, Bool.or_true]
      rfl
    · rw [pk_un e, decide_eq_false e, Bool.or_false]
      exact hK k hk
  · rw [sn_set M j (by omega) hi, hK2 i h7 hi, decide_eq_false (by omega), Bool.or_false]
theorem sn_Rclr {L M : Int32} {E P T F O K : Nat → Int32} (R : sn_R L M E P T F O K) {j : Nat} (hj : j < 7) : sn_R L (M &&& (((1 : Int32) <<< (nI j &&& 31)) ^^^ (-1))) E P T F O (upd K j 0) := by
  obtain ⟨hT, hE, hP, hK, hK2⟩ := R
  refine ⟨hT, hE, hP, fun k hk => ?_, fun i h7 hi => ?_⟩
  · rw [sn_clr M j (by omega) (by omega)]
    by_cases e : k = j
    · subst e
      rw [pk_us, decide_eq_true rfl, Bool.not_true, Bool.and_false]
      rfl
    · rw [pk_un e, decide_eq_false e, Bool.not_false, Bool.and_true]
      exact hK k hk
  · rw [sn_clr M j (by omega) hi, hK2 i h7 hi, Bool.false_and]
