/-! the reference's walks against the same pictures -/
/-- the two ends of a line, as the reference makes them of its arrays -/
def sn_E (F O : Nat → Int32) (k : Nat) : Int32 := ((1 : Int32) <<< (F k &&& 31)) ||| ((1 : Int32) <<< (O k &&& 31))
theorem sn_yp (T F O P K : Nat → Int32) (c : Int32) (post : Int32 → Prop) : ∀ (d k n : Nat) (s : Int32), k + d = 10 → d < n → post (sn_pY T P c d k s) → wY_priceOf_4 post c T F O P K n s (nI k) := by
  intro d
  induction d with
  | zero =>
    intro k n s hk hn hp
    obtain ⟨n, rfl⟩ : ∃ m, n = m + 1 := ⟨n - 1, by omega⟩
    have e : k = 10 := by omega
    subst e
    exact br_t (nI_le (a := 10) (b := 10) (by decide) (by decide)) hp
  | succ d ih =>
    intro k n s hk hn hp
    obtain ⟨n, rfl⟩ : ∃ m, n = m + 1 := ⟨n - 1, by omega⟩
    have h10 : ¬ (10 : Int32) ≤ nI k := nI_ge (b := 10) (by omega) (by decide)
    have hi : vp_in (nI k) 10 := vp_in_nI (by omega) (by omega)
    have ek : T (nI k).toNatClampNeg = T k := by rw [nI_clamp (by omega)]
    refine br_f h10 ?_
    cases hb : bt c k
    · rw [sn_pY_n hb] at hp
      refine br_f (sn_bn (by omega) hb) ?_
      refine nm_r (nI_1 k) ?_
      exact ih (k + 1) n s (by omega) (by omega) hp
    · refine br_t (sn_by (by omega) hb) ⟨hi, ?_⟩
      by_cases h0 : T k = 0
      · rw [sn_pY_0 hb h0] at hp
        exact br_t (by rw [ek]; exact h0) hp
      · rw [sn_pY_1 hb h0] at hp
        refine br_f (by rw [ek]; exact h0) ⟨hi, ?_⟩
        refine nm_r (show s + P (nI k).toNatClampNeg = s + P k by rw [nI_clamp (by omega)]) ?_
        refine nm_r (nI_1 k) ?_
        exact ih (k + 1) n (s + P k) (by omega) (by omega) hp
theorem sn_yPrice (T F O P K : Nat → Int32) (c : Int32) (post : Int32 → Prop) (hp : post (sn_pY T P c 10 0 0)) : wpY_priceOf post (T, F, O, P, K) c :=
  ⟨11, sn_yp T F O P K c post 10 0 11 0 rfl (by decide) hp⟩
theorem sn_yr (T F O P K : Nat → Int32) (c p x4 : Int32) (post : Int32 → Prop) (J : Int32 → Int32 → Prop) : ∀ (d k n : Nat) (r : Int32), k + d = 10 → d < n → J (sn_go (sn_E F O) c d k r) (x4 + 1) → wY_joins_18 post J c p x4 T F O P K n r (nI k) := by
  intro d
  induction d with
  | zero =>
    intro k n r hk hn hp
    obtain ⟨n, rfl⟩ : ∃ m, n = m + 1 := ⟨n - 1, by omega⟩
    have e : k = 10 := by omega
    subst e
    exact br_t (nI_le (a := 10) (b := 10) (by decide) (by decide)) (nm_e hp)
  | succ d ih =>
    intro k n r hk hn hp
    obtain ⟨n, rfl⟩ : ∃ m, n = m + 1 := ⟨n - 1, by omega⟩
    have h10 : ¬ (10 : Int32) ≤ nI k := nI_ge (b := 10) (by omega) (by decide)
    have hi : vp_in (nI k) 10 := vp_in_nI (by omega) (by omega)
    have hp' : J (sn_go (sn_E F O) c d (k + 1) (sn_step (sn_E F O) c k r)) (x4 + 1) := hp
    refine br_f h10 ⟨hi, hi, ?_⟩
    refine nm_r (show ((1 : Int32) <<< (F (nI k).toNatClampNeg &&& 31)) ||| ((1 : Int32) <<< (O (nI k).toNatClampNeg &&& 31)) = sn_E F O k by rw [nI_clamp (by omega)]; rfl) ?_
    cases hb : bt c k
    · rw [sn_step_n hb] at hp'
      refine br_f (sn_bn (by omega) hb) ?_
      refine nm_r (nI_1 k) ?_
      exact ih (k + 1) n r (by omega) (by omega) hp'
    · refine br_t (sn_by (by omega) hb) ?_
      by_cases h0 : (r &&& sn_E F O k) = 0
      · rw [sn_step_0 h0] at hp'
        refine br_t h0 ?_
        refine nm_r (nI_1 k) ?_
        exact ih (k + 1) n r (by omega) (by omega) hp'
      · rw [sn_step_1 hb h0] at hp'
        refine br_f h0 ?_
        refine nm_e ?_
        refine nm_r (nI_1 k) ?_
        exact ih (k + 1) n (r ||| sn_E F O k) (by omega) (by omega) hp'
theorem sn_yj (T F O P K : Nat → Int32) (c p : Int32) (post : Int32 → Prop) : ∀ (d k n : Nat) (r : Int32), k + d = 6 → d < n → post (sn_jv (sn_rounds (sn_E F O) c d r) p) → wY_joins_8 post c p T F O P K n r (nI k) := by
  intro d
  induction d with
  | zero =>
    intro k n r hk hn hp
    obtain ⟨n, rfl⟩ : ∃ m, n = m + 1 := ⟨n - 1, by omega⟩
    have e : k = 6 := by omega
    subst e
    refine br_t (nI_le (a := 6) (b := 6) (by decide) (by decide)) ?_
    have hp' : post (sn_jv r p) := hp
    unfold sn_jv at hp'
    by_cases h : (r &&& p) = p
    · rw [if_pos h] at hp'
      exact br_t h hp'
    · rw [if_neg h] at hp'
      exact br_f h hp'
  | succ d ih =>
    intro k n r hk hn hp
    obtain ⟨n, rfl⟩ : ∃ m, n = m + 1 := ⟨n - 1, by omega⟩
    have h6 : ¬ (6 : Int32) ≤ nI k := nI_ge (b := 6) (by omega) (by decide)
    have hn' : wY_joins_8 post c p T F O P K n (sn_go (sn_E F O) c 10 0 r) (nI k + 1) := by
      rw [nI_1 k]
      exact ih (k + 1) n _ (by omega) (by omega) hp
    refine br_f h6 ?_
    exact ⟨11, sn_yr T F O P K c p (nI k) post (wY_joins_8 post c p T F O P K n) 10 0 11 r rfl (by decide) hn'⟩
theorem sn_yJoins (T F O P K : Nat → Int32) (c p : Int32) (post : Int32 → Prop) (hp : post (sn_jv (sn_rounds (sn_E F O) c 6 (p &&& (-p))) p)) : wpY_joins post (T, F, O, P, K) c p := by
  refine nm_e ?_
  exact ⟨7, sn_yj T F O P K c p post 6 0 7 _ rfl (by decide) hp⟩
theorem sn_y57 (T F O P K : Nat → Int32) (c : Nat) (p q o b l s : Int32) (post : Int32 → Prop) (J : Int32 → Int32 → Int32 → Prop) (h0 : sn_jv (sn_rounds (sn_E F O) (nI c) 6 (p &&& (-p))) p = 0 → J b l (nI (c + 1))) (h1 : ¬ sn_jv (sn_rounds (sn_E F O) (nI c) 6 (p &&& (-p))) p = 0 → J (nI c) s (nI (c + 1))) : wY_best_57 post J p q o b l (nI c) s T F O P K := by
  unfold wY_best_57
  refine sn_yJoins T F O P K (nI c) p _ ?_
  exact br_c (fun h => nm_r (nI_1 c) (h0 h)) (fun h => nm_r (nI_1 c) (h1 h))
/-- marks(): the loop gathers the bits of M -/
theorem sn_m0 {s M : Int32} {k : Nat} (h : ∀ i, i < 32 → bt s i = (decide (i < k) && bt M i)) (hb : bt M k = false) : ∀ i, i < 32 → bt s i = (decide (i < k + 1) && bt M i) := by
  intro i hi
  rw [h i hi]
  by_cases e : i = k
  · subst e
    rw [hb, Bool.and_false, Bool.and_false]
  · have e2 : decide (i < k) = decide (i < k + 1) := by
      rw [decide_eq_decide]
      omega
    rw [e2]
theorem sn_m1 {s M : Int32} {k : Nat} (hk : k < 32) (h : ∀ i, i < 32 → bt s i = (decide (i < k) && bt M i)) (hb : bt M k = true) : ∀ i, i < 32 → bt (s ||| ((1 : Int32) <<< (nI k &&& 31))) i = (decide (i < k + 1) && bt M i) := by
  intro i hi
  rw [sn_set s k hk hi, h i hi]
  by_cases e : i = k
  · subst e
    simp [hb]
  · have e2 : decide (i < k) = decide (i < k + 1) := by
      rw [decide_eq_decide]
      omega
    rw [e2, decide_eq_false e, Bool.or_false]
theorem sn_ym (T F O P K : Nat → Int32) (M : Int32) (hM : ∀ k, k < 7 → K k = sn_v (bt M k)) (hM2 : ∀ i, 7 ≤ i → i < 32 → bt M i = false) (post : Int32 → Prop) (hp : post M) : ∀ (d k n : Nat) (s : Int32), k + d = 7 → d < n → (∀ i, i < 32 → bt s i = (decide (i < k) && bt M i)) → wY_marks_4 post T F O P K n s (nI k) := by
  intro d
  induction d with
  | zero =>
    intro k n s hk hn hs
    obtain ⟨n, rfl⟩ : ∃ m, n = m + 1 := ⟨n - 1, by omega⟩
    have e : k = 7 := by omega
    subst e
    have es : s = M := by
      apply b_ext
      intro i hi
      rw [hs i hi]
      by_cases h7 : i < 7
      · rw [decide_eq_true h7, Bool.true_and]
      · rw [hM2 i (by omega) hi, Bool.and_false]
    subst es
    exact br_t (nI_le (a := 7) (b := 7) (by decide) (by decide)) hp
  | succ d ih =>
    intro k n s hk hn hs
    obtain ⟨n, rfl⟩ : ∃ m, n = m + 1 := ⟨n - 1, by omega⟩
    have h7 : ¬ (7 : Int32) ≤ nI k := nI_ge (b := 7) (by omega) (by decide)
    have hi : vp_in (nI k) 7 := vp_in_nI (by omega) (by omega)
    have ek : K (nI k).toNatClampNeg = sn_v (bt M k) := by rw [nI_clamp (by omega), hM k (by omega)]
    refine br_f h7 ⟨hi, ?_⟩
    cases hb : bt M k
    · refine br_t (by rw [ek, hb]; decide) ?_
      refine nm_r (nI_1 k) ?_
      exact ih (k + 1) n s (by omega) (by omega) (sn_m0 hs hb)
    · refine br_f (by rw [ek, hb]; decide) ?_
      refine nm_e ?_
      refine nm_r (nI_1 k) ?_
      exact ih (k + 1) n _ (by omega) (by omega) (sn_m1 (by omega) hs hb)
theorem sn_yMarks (T F O P K : Nat → Int32) (M : Int32) (hM : ∀ k, k < 7 → K k = sn_v (bt M k)) (hM2 : ∀ i, 7 ≤ i → i < 32 → bt M i = false) (post : Int32 → Prop) (hp : post M) : wpY_marks post (T, F, O, P, K) :=
  ⟨8, sn_ym T F O P K M hM hM2 post hp 7 0 8 0 rfl (by decide) (fun i _ => by rw [b_0]; simp)⟩
