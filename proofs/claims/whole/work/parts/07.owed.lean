/-! what is owed -/
/-- one price array for both; lines there, their ends and the marks as sn_R says; k plays no part -/
def i_Rel (_ : Nat) (u : SX) (v : SY) : Prop := ∃ (L M : Int32) (E P T F O K : Nat → Int32), u = (L, M, E, P) ∧ v = (T, F, O, P, K) ∧ sn_R L M E P T F O K
theorem sn_rel {k : Nat} {L M : Int32} {E P T F O K : Nat → Int32} (R : sn_R L M E P T F O K) : i_Rel k (L, M, E, P) (T, F, O, P, K) :=
  ⟨L, M, E, P, T, F, O, K, rfl, rfl, R⟩
theorem i_up {k : Nat} {u : SX} {v : SY} (h : i_Rel k u v) : i_Rel (k + 5) u v := h
theorem i_vc0 : wpX_init (fun u => wpY_init (fun v => i_Rel 0 u v)) := by
  refine sn_rel (k := 0) ⟨fun k _ => ?_, fun k _ hb => ?_, fun k _ => ?_, fun k _ => ?_, fun i _ _ => b_0 i⟩
  · rw [b_0]
    rfl
  · rw [b_0] at hb
    cases hb
  · show 0 ≤ (0 : Int32).toInt ∧ (0 : Int32).toInt ≤ 100
    decide
  · rw [b_0]
    rfl
theorem i_vc_line {k : Nat} {u : SX} {v : SY} (I : i_Rel k u v) (hk : k + 5 ≤ 2560) (v1 : Int32) (v2 : Int32) (v3 : Int32) (v4 : Int32) : wpX_line (fun r u' => wpY_line (fun r' v' => r' = r ∧ i_Rel (k + 5) u' v') v v1 v2 v3 v4) u v1 v2 v3 v4 := by
  obtain ⟨L, M, E, P, T, F, O, K, rfl, rfl, R⟩ := I
  have no : (-2 : Int32) = -2 ∧ i_Rel (k + 5) (L, M, E, P) (T, F, O, P, K) := ⟨rfl, sn_rel R⟩
  unfold wpX_line wpY_line
  dsimp only
  rcases sn_ln v1 with ⟨j, hj, rfl, hX, h0, h9⟩ | ⟨hX, hY⟩
  · refine hX _ ?_
    refine br_f sn_n1 ?_
    rcases sn_pt v2 with ⟨a, ha, -, hXa, hYa⟩ | ⟨hXa, hYa⟩
    · refine hXa _ ?_
      refine br_f sn_n1 ?_
      rcases sn_pt v3 with ⟨b, hb, -, hXb, hYb⟩ | ⟨hXb, hYb⟩
      · refine hXb _ ?_
        refine br_f sn_n1 ?_
        by_cases hab : v2 = v3
        · refine br_t hab ?_
          refine br_f h0 ?_
          refine br_f h9 ?_
          refine hYa _ ?_
          refine br_t rfl ?_
          refine hYb _ ?_
          exact br_t rfl (br_t hab no)
        · refine br_f hab ?_
          by_cases h1 : v4 < 1
          · refine br_t h1 ?_
            refine br_f h0 ?_
            refine br_f h9 ?_
            refine hYa _ ?_
            refine br_t rfl ?_
            refine hYb _ ?_
            exact br_t rfl (br_f hab (br_t h1 no))
          · refine br_f h1 ?_
            by_cases h2 : v4 ≤ 100
            · have hi : vp_in (nI j) 10 := vp_in_nI hj (by decide)
              have ej : (nI j).toNatClampNeg = j := nI_clamp (by omega)
              refine br_t h2 ⟨hi, ?_⟩
              refine nm_r (congrArg (fun z => upd E z _) ej) ⟨hi, ?_⟩
              refine nm_r (congrArg (fun z => upd P z _) ej) ?_
              refine nm_e ?_
              refine br_f h0 ?_
              refine br_f h9 ?_
              refine hYa _ ?_
              refine br_t rfl ?_
              refine hYb _ ?_
              refine br_t rfl ?_
              refine br_f hab ?_
              refine br_f h1 ?_
              refine br_t h2 ⟨hi, ?_⟩
              refine nm_r (show upd T (nI j).toNatClampNeg (vp_nar .boolean 1) = upd T j 1 by rw [ej, sn_nb1]) ⟨hi, ?_⟩
              refine nm_r (congrArg (fun z => upd F z _) ej) ⟨hi, ?_⟩
              refine nm_r (congrArg (fun z => upd O z _) ej) ⟨hi, ?_⟩
              refine nm_r (congrArg (fun z => upd P z _) ej) ?_
              exact ⟨rfl, sn_rel (sn_Rline R hj v2 v3 v4 (sn_pr h1 h2))⟩
            · refine br_f h2 ?_
              refine br_f h0 ?_
              refine br_f h9 ?_
              refine hYa _ ?_
              refine br_t rfl ?_
              refine hYb _ ?_
              exact br_t rfl (br_f hab (br_f h1 (br_f h2 no)))
      · refine hXb _ ?_
        refine br_t rfl ?_
        refine br_f h0 ?_
        refine br_f h9 ?_
        refine hYa _ ?_
        refine br_t rfl ?_
        refine hYb _ ?_
        exact br_f sn_n1 no
    · refine hXa _ ?_
      refine br_t rfl ?_
      refine br_f h0 ?_
      refine br_f h9 ?_
      refine hYa _ ?_
      exact br_f sn_n1 no
  · refine hX _ ?_
    refine br_t rfl ?_
    rcases hY with h | ⟨h0, h9⟩
    · exact br_t h no
    · exact br_f h0 (br_t h9 no)
theorem i_vc_cut {k : Nat} {u : SX} {v : SY} (I : i_Rel k u v) (hk : k + 5 ≤ 2560) (v1 : Int32) : wpX_cut (fun r u' => wpY_cut (fun r' v' => r' = r ∧ i_Rel (k + 5) u' v') v v1) u v1 := by
  obtain ⟨L, M, E, P, T, F, O, K, rfl, rfl, R⟩ := I
  unfold wpX_cut wpY_cut
  dsimp only
  rcases sn_lt R v1 with ⟨j, hj, rfl, hb, hX, hY⟩ | ⟨hX, hY⟩
  · have hi : vp_in (nI j) 10 := vp_in_nI hj (by decide)
    have ej : (nI j).toNatClampNeg = j := nI_clamp (by omega)
    refine hX _ ?_
    refine br_f sn_n1 ?_
    refine nm_e ?_
    refine hY _ ?_
    refine br_t rfl ⟨hi, ?_⟩
    refine nm_r (show upd T (nI j).toNatClampNeg (vp_nar .boolean 0) = upd T j 0 by rw [ej, sn_nb0]) ?_
    exact ⟨rfl, sn_rel (sn_Rcut R hj)⟩
  · refine hX _ ?_
    refine br_t rfl ?_
    refine hY _ ?_
    exact br_f sn_n1 ⟨rfl, sn_rel R⟩
theorem i_vc_mark {k : Nat} {u : SX} {v : SY} (I : i_Rel k u v) (hk : k + 5 ≤ 2560) (v1 : Int32) (v2 : Int32) : wpX_mark (fun r u' => wpY_mark (fun r' v' => r' = r ∧ i_Rel (k + 5) u' v') v v1 (lw_bz v2)) u v1 (lw_bz v2) := by
  obtain ⟨L, M, E, P, T, F, O, K, rfl, rfl, R⟩ := I
  unfold wpX_mark wpY_mark
  dsimp only
  rcases sn_pt v1 with ⟨j, hj, rfl, hX, hY⟩ | ⟨hX, hY⟩
  · have hi : vp_in (nI j) 7 := vp_in_nI hj (by decide)
    have ej : (nI j).toNatClampNeg = j := nI_clamp (by omega)
    have ek : K (nI j).toNatClampNeg = sn_v (bt M j) := by rw [ej, R.2.2.2.1 j hj]
    have eu : upd K (nI j).toNatClampNeg (vp_nar .boolean (lw_bz v2)) = upd K j (lw_bz v2) := by rw [ej, sn_nb]
    refine hX _ ?_
    refine br_f sn_n1 ?_
    refine nm_r (sn_bit M j (by omega)) ?_
    have fin : ∀ M' : Int32, sn_R L M' E P T F O (upd K j (lw_bz v2)) → wpY_badPoint (fun r_1 => (r_1 = 0 → vp_in (nI j) 7 ∧ ((K (nI j).toNatClampNeg = 0 → wY_mark_24 (fun r' v' => r' = sn_v (bt M j) ∧ i_Rel (k + 5) (L, M', E, P) v') (nI j) (lw_bz v2) 0 T F O P K) ∧ (¬ K (nI j).toNatClampNeg = 0 → wY_mark_24 (fun r' v' => r' = sn_v (bt M j) ∧ i_Rel (k + 5) (L, M', E, P) v') (nI j) (lw_bz v2) 1 T F O P K))) ∧ (¬ r_1 = 0 → (-2 : Int32) = sn_v (bt M j) ∧ i_Rel (k + 5) (L, M', E, P) (T, F, O, P, K))) (nI j) := by
      intro M' R'
      refine hY _ ?_
      refine br_t rfl ⟨hi, ?_⟩
      cases hb : bt M j
      · rw [hb] at ek
        refine br_t ek ?_
        refine ⟨hi, ?_⟩
        refine nm_r eu ?_
        exact ⟨rfl, sn_rel R'⟩
      · rw [hb] at ek
        refine br_f (by rw [ek]; decide) ?_
        refine ⟨hi, ?_⟩
        refine nm_r eu ?_
        exact ⟨rfl, sn_rel R'⟩
    rcases lw_bz_01 v2 with e | e
    · refine br_t e ?_
      refine nm_e ?_
      exact fin _ (by rw [e]; exact sn_Rclr R hj)
    · refine br_f (by rw [e]; decide) ?_
      refine nm_e ?_
      exact fin _ (by rw [e]; exact sn_Rset R hj)
  · refine hX _ ?_
    refine br_t rfl ?_
    refine hY _ ?_
    exact br_f sn_n1 ⟨rfl, sn_rel R⟩
theorem i_vc_least {k : Nat} {u : SX} {v : SY} (I : i_Rel k u v) (hk : k + 5 ≤ 2560) : wpX_least (fun r => wpY_least (fun r' => r' = r ∧ i_Rel (k + 5) u v) v) u := by
  obtain ⟨L, M, E, P, T, F, O, K, rfl, rfl, R⟩ := I
  obtain ⟨r, hX, hY⟩ := sn_low R M 0 L 0 (sn_A0 L)
  unfold wpX_least wpY_least
  dsimp only
  refine hX _ ?_
  refine sn_yMarks T F O P K M R.2.2.2.1 R.2.2.2.2 _ ?_
  refine hY _ ?_
  exact ⟨rfl, sn_rel R⟩
theorem i_vc_chosen {k : Nat} {u : SX} {v : SY} (I : i_Rel k u v) (hk : k + 5 ≤ 2560) (v1 : Int32) : wpX_chosen (fun r => wpY_chosen (fun r' => r' = r ∧ i_Rel (k + 5) u v) v v1) u v1 := by
  obtain ⟨L, M, E, P, T, F, O, K, rfl, rfl, R⟩ := I
  unfold wpX_chosen wpY_chosen
  dsimp only
  rcases sn_lt R v1 with ⟨j, hj, rfl, hb, hX, hY⟩ | ⟨hX, hY⟩
  · obtain ⟨r, hr, gX, gY⟩ := sn_bestM R M 0 L 0 (sn_A0 L)
    refine hX _ ?_
    refine br_f sn_n1 ?_
    refine gX _ ?_
    rcases hr with e | ⟨c, hc, e, -⟩
    · subst e
      refine br_t rfl ?_
      refine hY _ ?_
      refine br_t rfl ?_
      refine sn_yMarks T F O P K M R.2.2.2.1 R.2.2.2.2 _ ?_
      refine gY _ ?_
      exact br_f (by decide) ⟨rfl, sn_rel R⟩
    · subst e
      refine br_f (sn_neg hc) ?_
      refine hY _ ?_
      refine br_t rfl ?_
      refine sn_yMarks T F O P K M R.2.2.2.1 R.2.2.2.2 _ ?_
      refine gY _ ?_
      exact br_t (nI_pos' (by omega)) ⟨rfl, sn_rel R⟩
  · refine hX _ ?_
    refine br_t rfl ?_
    refine hY _ ?_
    exact br_f sn_n1 ⟨rfl, sn_rel R⟩
theorem i_vc_with {k : Nat} {u : SX} {v : SY} (I : i_Rel k u v) (hk : k + 5 ≤ 2560) (v1 : Int32) : wpX_with (fun r => wpY_with (fun r' => r' = r ∧ i_Rel (k + 5) u v) v v1) u v1 := by
  obtain ⟨L, M, E, P, T, F, O, K, rfl, rfl, R⟩ := I
  unfold wpX_with wpY_with
  dsimp only
  rcases sn_lt R v1 with ⟨j, hj, rfl, hb, hX, hY⟩ | ⟨hX, hY⟩
  · obtain ⟨r, gX, gY⟩ := sn_low R M ((1 : Int32) <<< (nI j &&& 31)) L 0 (sn_A0 L)
    refine hX _ ?_
    refine br_f sn_n1 ?_
    refine gX _ ?_
    refine hY _ ?_
    refine br_t rfl ?_
    refine sn_yMarks T F O P K M R.2.2.2.1 R.2.2.2.2 _ ?_
    refine gY _ ?_
    exact ⟨rfl, sn_rel R⟩
  · refine hX _ ?_
    refine br_t rfl ?_
    refine hY _ ?_
    exact br_f sn_n1 ⟨rfl, sn_rel R⟩
theorem i_vc_without {k : Nat} {u : SX} {v : SY} (I : i_Rel k u v) (hk : k + 5 ≤ 2560) (v1 : Int32) : wpX_without (fun r => wpY_without (fun r' => r' = r ∧ i_Rel (k + 5) u v) v v1) u v1 := by
  obtain ⟨L, M, E, P, T, F, O, K, rfl, rfl, R⟩ := I
  unfold wpX_without wpY_without
  dsimp only
  rcases sn_lt R v1 with ⟨j, hj, rfl, hb, hX, hY⟩ | ⟨hX, hY⟩
  · obtain ⟨r, gX, gY⟩ := sn_low R M 0 (L &&& (((1 : Int32) <<< (nI j &&& 31)) ^^^ (-1))) ((1 : Int32) <<< (nI j &&& 31)) (sn_A1 L hj)
    refine hX _ ?_
    refine br_f sn_n1 ?_
    refine gX _ ?_
    refine hY _ ?_
    refine br_t rfl ?_
    refine sn_yMarks T F O P K M R.2.2.2.1 R.2.2.2.2 _ ?_
    refine gY _ ?_
    exact ⟨rfl, sn_rel R⟩
  · refine hX _ ?_
    refine br_t rfl ?_
    refine hY _ ?_
    exact br_f sn_n1 ⟨rfl, sn_rel R⟩
theorem i_vc_including {k : Nat} {u : SX} {v : SY} (I : i_Rel k u v) (hk : k + 5 ≤ 2560) (v1 : Int32) : wpX_including (fun r => wpY_including (fun r' => r' = r ∧ i_Rel (k + 5) u v) v v1) u v1 := by
  obtain ⟨L, M, E, P, T, F, O, K, rfl, rfl, R⟩ := I
  unfold wpX_including wpY_including
  dsimp only
  rcases sn_pt v1 with ⟨j, hj, rfl, hX, hY⟩ | ⟨hX, hY⟩
  · obtain ⟨r, gX, gY⟩ := sn_low R (M ||| ((1 : Int32) <<< (nI j &&& 31))) 0 L 0 (sn_A0 L)
    refine hX _ ?_
    refine br_f sn_n1 ?_
    refine gX _ ?_
    refine hY _ ?_
    refine br_t rfl ?_
    refine sn_yMarks T F O P K M R.2.2.2.1 R.2.2.2.2 _ ?_
    refine gY _ ?_
    exact ⟨rfl, sn_rel R⟩
  · refine hX _ ?_
    refine br_t rfl ?_
    refine hY _ ?_
    exact br_f sn_n1 ⟨rfl, sn_rel R⟩
theorem i_vc_between {k : Nat} {u : SX} {v : SY} (I : i_Rel k u v) (hk : k + 5 ≤ 2560) (v1 : Int32) (v2 : Int32) : wpX_between (fun r => wpY_between (fun r' => r' = r ∧ i_Rel (k + 5) u v) v v1 v2) u v1 v2 := by
  obtain ⟨L, M, E, P, T, F, O, K, rfl, rfl, R⟩ := I
  unfold wpX_between wpY_between
  dsimp only
  rcases sn_pt v1 with ⟨a, ha, rfl, hX, hY⟩ | ⟨hX, hY⟩
  · refine hX _ ?_
    refine br_f sn_n1 ?_
    rcases sn_pt v2 with ⟨b, hb, rfl, hXb, hYb⟩ | ⟨hXb, hYb⟩
    · obtain ⟨r, gX, gY⟩ := sn_low R (((1 : Int32) <<< (nI a &&& 31)) ||| ((1 : Int32) <<< (nI b &&& 31))) 0 L 0 (sn_A0 L)
      refine hXb _ ?_
      refine br_f sn_n1 ?_
      refine gX _ ?_
      refine hY _ ?_
      refine br_t rfl ?_
      refine hYb _ ?_
      refine br_t rfl ?_
      refine gY _ ?_
      exact ⟨rfl, sn_rel R⟩
    · refine hXb _ ?_
      refine br_t rfl ?_
      refine hY _ ?_
      refine br_t rfl ?_
      refine hYb _ ?_
      exact br_f sn_n1 ⟨rfl, sn_rel R⟩
  · refine hX _ ?_
    refine br_t rfl ?_
    refine hY _ ?_
    exact br_f sn_n1 ⟨rfl, sn_rel R⟩
