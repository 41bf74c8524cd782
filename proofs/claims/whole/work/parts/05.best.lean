/-! the choices in lockstep: one answer for both sides, whatever is asked of it -/
theorem sn_neg {j : Nat} (h : j < 1024) : ¬ nI j = -1 := by
  intro e
  have h2 : ¬ nI j < 0 := nI_pos (by omega)
  rw [e] at h2
  exact h2 (by decide)
theorem sn_m1lt : (-1 : Int32) < 0 := by decide
/-- a best so far: none, or the number of a choice whose lines are all there -/
def sn_B (L b : Int32) : Prop := b = -1 ∨ ∃ j, j < 1024 ∧ b = nI j ∧ ∀ k, k < 10 → bt (nI j) k = true → bt L k = true
theorem sn_pay {T P : Nat → Int32} {L : Int32} {c : Int32} (hT : ∀ k, k < 10 → T k = sn_v (bt L k)) (h : ∀ k, k < 10 → bt c k = true → bt L k = true) : sn_pY T P c 10 0 0 = sn_sum P c 10 0 0 := by
  refine sn_pY_all 10 0 0 (fun j _ h2 hb => ?_)
  rw [hT j (by omega), sn_vt (h j (by omega) hb)]
  exact sn_n1
theorem sn_nopay {T P : Nat → Int32} {L : Int32} {c : Int32} (hT : ∀ k, k < 10 → T k = sn_v (bt L k)) (h : ¬ ∀ k, k < 10 → bt c k = true → bt L k = true) : sn_pY T P c 10 0 0 = -1 := by
  have h2 : ∃ j, j < 10 ∧ bt c j = true ∧ bt L j = false := by
    apply Classical.byContradiction
    intro n
    apply h
    intro k hk hb
    cases hL : bt L k
    · exact absurd ⟨k, hk, hb, hL⟩ n
    · rfl
  obtain ⟨j, hj, hb, hL⟩ := h2
  exact sn_pY_not 10 0 0 j (by omega) (by omega) hb (by rw [hT j hj, sn_vf hL])
theorem sn_nn {P : Nat → Int32} {c : Int32} (h : ∀ k, k < 10 → 0 ≤ (P k).toInt ∧ (P k).toInt ≤ 100) : ¬ sn_sum P c 10 0 0 < 0 := by
  have h0 : (0 : Int32).toInt = 0 := by decide
  have h1 := sn_sum_in (c := c) h 10 0 0 (by omega) (by rw [h0]; omega) (by rw [h0]; omega)
  rw [Int32.lt_iff_toInt_lt, h0]
  omega
theorem sn_best {L M : Int32} {E P T F O K : Nat → Int32} (p q A o : Int32) (hT : ∀ k, k < 10 → T k = sn_v (bt L k)) (hE : ∀ k, k < 10 → bt L k = true → E k = sn_E F O k) (hP : ∀ k, k < 10 → 0 ≤ (P k).toInt ∧ (P k).toInt ≤ 100) (hA : ∀ k, k < 10 → bt A k = (bt L k && !bt o k)) :
    ∀ (d c : Nat) (b l : Int32), c + d = 1024 → sn_B L b → ∃ r, sn_B L r ∧ (∀ post : Int32 → Prop, post r → wX_bestChoice_9 post p q A L M E P (d + 1) b l (nI c)) ∧ (∀ post : Int32 → Prop, post r → wY_best_9 post p q o T F O P K (d + 1) b l (nI c)) := by
  intro d
  induction d with
  | zero =>
    intro c b l hc hb
    have e : c = 1024 := by omega
    subst e
    have h : (1024 : Int32) ≤ nI 1024 := nI_le (a := 1024) (b := 1024) (by decide) (by decide)
    exact ⟨b, hb, fun _ hp => br_t h hp, fun _ hp => br_t h hp⟩
  | succ d ih =>
    intro c b l hc hb
    have hc' : c < 1024 := by omega
    have h : ¬ (1024 : Int32) ≤ nI c := nI_ge (b := 1024) (by omega) (by decide)
    obtain ⟨r, hr, hX, hY⟩ := ih (c + 1) b l (by omega) hb
    by_cases h1 : (nI c &&& q) = q
    · by_cases h2 : (nI c &&& o) = 0
      · by_cases h3 : ∀ k, k < 10 → bt (nI c) k = true → bt L k = true
        · have h4 : (nI c &&& (A ^^^ (-1))) = 0 := (sn_cond hc' hA).mpr ⟨h2, h3⟩
          have ey := sn_pay (P := P) hT h3
          have hs := sn_nn (c := nI c) hP
          have ej : sn_rounds E (nI c) 6 (p &&& (-p)) = sn_rounds (sn_E F O) (nI c) 6 (p &&& (-p)) := sn_rounds_eq (fun j hj hbj => hE j hj (h3 j hj hbj)) 6 _
          by_cases ht : b = -1 ∨ ¬ l ≤ sn_sum P (nI c) 10 0 0
          · have take : ∀ r', (sn_jv (sn_rounds E (nI c) 6 (p &&& (-p))) p = 0 → (∀ post : Int32 → Prop, post r' → wX_bestChoice_9 post p q A L M E P (d + 1) b l (nI (c + 1))) ∧ (∀ post : Int32 → Prop, post r' → wY_best_9 post p q o T F O P K (d + 1) b l (nI (c + 1)))) →
                (¬ sn_jv (sn_rounds E (nI c) 6 (p &&& (-p))) p = 0 → (∀ post : Int32 → Prop, post r' → wX_bestChoice_9 post p q A L M E P (d + 1) (nI c) (sn_sum P (nI c) 10 0 0) (nI (c + 1))) ∧ (∀ post : Int32 → Prop, post r' → wY_best_9 post p q o T F O P K (d + 1) (nI c) (sn_sum P (nI c) 10 0 0) (nI (c + 1)))) →
                (∀ post : Int32 → Prop, post r' → wX_bestChoice_9 post p q A L M E P (d + 1 + 1) b l (nI c)) ∧ (∀ post : Int32 → Prop, post r' → wY_best_9 post p q o T F O P K (d + 1 + 1) b l (nI c)) := by
              intro r' g0 g1
              constructor
              · intro post hp
                refine br_f h ?_
                refine br_t h1 ?_
                refine br_t h4 ?_
                refine sn_xPrice L M E P (nI c) _ ?_
                have w := sn_x58 L M E P c p q A b l (sn_sum P (nI c) 10 0 0) post (wX_bestChoice_9 post p q A L M E P (d + 1)) (fun z => (g0 z).1 post hp) (fun z => (g1 z).1 post hp)
                exact br_c (fun _ => w) (fun nb => br_f (ht.resolve_left nb) w)
              · intro post hp
                refine br_f h ?_
                refine br_t h1 ?_
                refine br_t h2 ?_
                refine sn_yPrice T F O P K (nI c) _ ?_
                rw [ey]
                have w := sn_y57 T F O P K c p q o b l (sn_sum P (nI c) 10 0 0) post (wY_best_9 post p q o T F O P K (d + 1)) (fun z => (g0 (by rw [ej]; exact z)).2 post hp) (fun z => (g1 (by rw [ej]; exact z)).2 post hp)
                refine br_f hs ?_
                refine br_c (fun _ => w) (fun nb => br_f (ht.resolve_left ?_) w)
                intro eb
                rw [eb] at nb
                exact nb sn_m1lt
            by_cases hj : sn_jv (sn_rounds E (nI c) 6 (p &&& (-p))) p = 0
            · obtain ⟨gX, gY⟩ := take r (fun _ => ⟨hX, hY⟩) (fun n => absurd hj n)
              exact ⟨r, hr, gX, gY⟩
            · obtain ⟨r2, hr2, hX2, hY2⟩ := ih (c + 1) (nI c) (sn_sum P (nI c) 10 0 0) (by omega) (Or.inr ⟨c, hc', rfl, h3⟩)
              obtain ⟨gX, gY⟩ := take r2 (fun z => absurd z hj) (fun _ => ⟨hX2, hY2⟩)
              exact ⟨r2, hr2, gX, gY⟩
          · have nb : ¬ b = -1 := fun z => ht (Or.inl z)
            have hl : l ≤ sn_sum P (nI c) 10 0 0 := Classical.byContradiction (fun z => ht (Or.inr z))
            have nb2 : ¬ b < 0 := by
              rcases hb with z | ⟨j, hj, ej, _⟩
              · exact absurd z nb
              · rw [ej]
                exact nI_pos (by omega)
            refine ⟨r, hr, fun post hp => ?_, fun post hp => ?_⟩
            · refine br_f h ?_
              refine br_t h1 ?_
              refine br_t h4 ?_
              refine sn_xPrice L M E P (nI c) _ ?_
              exact br_f nb (br_t hl (nm_r (nI_1 c) (hX post hp)))
            · refine br_f h ?_
              refine br_t h1 ?_
              refine br_t h2 ?_
              refine sn_yPrice T F O P K (nI c) _ ?_
              rw [ey]
              exact br_f hs (br_f nb2 (br_t hl (nm_r (nI_1 c) (hY post hp))))
        · have h4 : ¬ (nI c &&& (A ^^^ (-1))) = 0 := fun z => h3 ((sn_cond hc' hA).mp z).2
          refine ⟨r, hr, fun post hp => ?_, fun post hp => ?_⟩
          · refine br_f h ?_
            refine br_t h1 ?_
            exact br_f h4 (nm_r (nI_1 c) (hX post hp))
          · refine br_f h ?_
            refine br_t h1 ?_
            refine br_t h2 ?_
            refine sn_yPrice T F O P K (nI c) _ ?_
            rw [sn_nopay hT h3]
            exact br_t sn_m1lt (nm_r (nI_1 c) (hY post hp))
      · have h4 : ¬ (nI c &&& (A ^^^ (-1))) = 0 := fun z => h2 ((sn_cond hc' hA).mp z).1
        refine ⟨r, hr, fun post hp => ?_, fun post hp => ?_⟩
        · refine br_f h ?_
          refine br_t h1 ?_
          exact br_f h4 (nm_r (nI_1 c) (hX post hp))
        · refine br_f h ?_
          refine br_t h1 ?_
          exact br_f h2 (nm_r (nI_1 c) (hY post hp))
    · refine ⟨r, hr, fun post hp => ?_, fun post hp => ?_⟩
      · refine br_f h ?_
        exact br_f h1 (nm_r (nI_1 c) (hX post hp))
      · refine br_f h ?_
        exact br_f h1 (nm_r (nI_1 c) (hY post hp))
/-- what the two states share -/
def sn_R (L M : Int32) (E P T F O K : Nat → Int32) : Prop :=
  (∀ k, k < 10 → T k = sn_v (bt L k)) ∧ (∀ k, k < 10 → bt L k = true → E k = sn_E F O k) ∧ (∀ k, k < 10 → 0 ≤ (P k).toInt ∧ (P k).toInt ≤ 100) ∧ (∀ k, k < 7 → K k = sn_v (bt M k)) ∧ (∀ i, 7 ≤ i → i < 32 → bt M i = false)
theorem sn_bestM {L M : Int32} {E P T F O K : Nat → Int32} (R : sn_R L M E P T F O K) (p q A o : Int32) (hA : ∀ k, k < 10 → bt A k = (bt L k && !bt o k)) :
    ∃ r, sn_B L r ∧ (∀ post : Int32 → Prop, post r → wpX_bestChoice post (L, M, E, P) p q A) ∧ (∀ post : Int32 → Prop, post r → wpY_best post (T, F, O, P, K) p q o) := by
  obtain ⟨r, hr, hX, hY⟩ := sn_best (M := M) (K := K) p q A o R.1 R.2.1 R.2.2.1 hA 1024 0 (-1) 0 rfl (Or.inl rfl)
  exact ⟨r, hr, fun post hp => ⟨1025, hX post hp⟩, fun post hp => ⟨1025, hY post hp⟩⟩
theorem sn_low {L M : Int32} {E P T F O K : Nat → Int32} (R : sn_R L M E P T F O K) (p q A o : Int32) (hA : ∀ k, k < 10 → bt A k = (bt L k && !bt o k)) :
    ∃ r, (∀ post : Int32 → Prop, post r → wpX_leastPrice post (L, M, E, P) p q A) ∧ (∀ post : Int32 → Prop, post r → wpY_lowest post (T, F, O, P, K) p q o) := by
  obtain ⟨r, hr, hX, hY⟩ := sn_bestM R p q A o hA
  rcases hr with e | ⟨j, hj, e, hall⟩
  · subst e
    refine ⟨-1, fun post hp => ?_, fun post hp => ?_⟩
    · unfold wpX_leastPrice
      dsimp only
      refine hX _ ?_
      exact br_t rfl hp
    · unfold wpY_lowest
      dsimp only
      refine hY _ ?_
      exact br_f (by decide) hp
  · subst e
    refine ⟨sn_sum P (nI j) 10 0 0, fun post hp => ?_, fun post hp => ?_⟩
    · unfold wpX_leastPrice
      dsimp only
      refine hX _ ?_
      refine br_f (sn_neg hj) ?_
      exact sn_xPrice L M E P (nI j) _ hp
    · unfold wpY_lowest
      dsimp only
      refine hY _ ?_
      refine br_t (nI_pos' (by omega)) ?_
      refine sn_yPrice T F O P K (nI j) _ ?_
      rw [sn_pay R.1 hall]
      exact hp
theorem sn_A0 (L : Int32) : ∀ k, k < 10 → bt L k = (bt L k && !bt 0 k) := by
  intro k _
  rw [b_0]
  simp
theorem sn_A1 (L : Int32) {j : Nat} (hj : j < 10) : ∀ k, k < 10 → bt (L &&& (((1 : Int32) <<< (nI j &&& 31)) ^^^ (-1))) k = (bt L k && !bt ((1 : Int32) <<< (nI j &&& 31)) k) := by
  intro k hk
  rw [b_and, sn_not _ (by omega)]
