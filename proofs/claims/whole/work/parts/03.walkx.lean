/-! the component's walks: each method of its own against its pure picture, with a general post -/
theorem sn_by {c : Int32} {k : Nat} (hk : k < 32) (h : bt c k = true) : ((c >>> (nI k &&& 31)) &&& 1) = 1 := by
  rw [sn_bit c k hk, sn_vt h]
theorem sn_bn {c : Int32} {k : Nat} (hk : k < 32) (h : bt c k = false) : ¬ ((c >>> (nI k &&& 31)) &&& 1) = 1 := by
  rw [sn_bit c k hk, sn_vf h]
  decide
theorem sn_n1 : ¬ (1 : Int32) = 0 := by decide
/-- what joins answers -/
def sn_jv (r p : Int32) : Int32 := if (r &&& p) = p then 1 else 0
theorem sn_xp (L M : Int32) (E P : Nat → Int32) (c : Int32) (post : Int32 → Prop) : ∀ (d k n : Nat) (s : Int32), k + d = 10 → d < n → post (sn_sum P c d k s) → wX_priceOfChoice_4 post c L M E P n s (nI k) := by
  intro d
  induction d with
  | zero =>
    intro k n s hk hn hp
    obtain ⟨n, rfl⟩ : ∃ m, n = m + 1 := ⟨n - 1, by omega⟩
    have e : k = 10 := by omega
    subst e
    exact br_t (nI_le (a := 10) (b := 10) (by decide) (by decide)) hp
  | succ d ih =>
    intro k n s hk hn hp
    obtain ⟨n, rfl⟩ : ∃ m, n = m + 1 := ⟨n - 1, by omega⟩
    have h10 : ¬ (10 : Int32) ≤ nI k := nI_ge (b := 10) (by omega) (by decide)
    have hi : vp_in (nI k) 10 := vp_in_nI (by omega) (by omega)
    refine br_f h10 ?_
    cases hb : bt c k
    · rw [sn_sum_0 hb] at hp
      refine br_f (sn_bn (by omega) hb) ?_
      refine nm_r (nI_1 k) ?_
      exact ih (k + 1) n s (by omega) (by omega) hp
    · rw [sn_sum_1 hb] at hp
      refine br_t (sn_by (by omega) hb) ⟨hi, ?_⟩
      refine nm_r (show s + P (nI k).toNatClampNeg = s + P k by rw [nI_clamp (by omega)]) ?_
      refine nm_r (nI_1 k) ?_
      exact ih (k + 1) n (s + P k) (by omega) (by omega) hp
theorem sn_xPrice (L M : Int32) (E P : Nat → Int32) (c : Int32) (post : Int32 → Prop) (hp : post (sn_sum P c 10 0 0)) : wpX_priceOfChoice post (L, M, E, P) c :=
  ⟨11, sn_xp L M E P c post 10 0 11 0 rfl (by decide) hp⟩
theorem sn_xr (L M : Int32) (E P : Nat → Int32) (c : Int32) (post : Int32 → Prop) : ∀ (d k n : Nat) (r : Int32), k + d = 10 → d < n → post (sn_go E c d k r) → wX_reachedOverLines_5 post c L M E P n r (nI k) := by
  intro d
  induction d with
  | zero =>
    intro k n r hk hn hp
    obtain ⟨n, rfl⟩ : ∃ m, n = m + 1 := ⟨n - 1, by omega⟩
    have e : k = 10 := by omega
    subst e
    exact br_t (nI_le (a := 10) (b := 10) (by decide) (by decide)) hp
  | succ d ih =>
    intro k n r hk hn hp
    obtain ⟨n, rfl⟩ : ∃ m, n = m + 1 := ⟨n - 1, by omega⟩
    have h10 : ¬ (10 : Int32) ≤ nI k := nI_ge (b := 10) (by omega) (by decide)
    have hi : vp_in (nI k) 10 := vp_in_nI (by omega) (by omega)
    have ek : E (nI k).toNatClampNeg = E k := by rw [nI_clamp (by omega)]
    have hp' : post (sn_go E c d (k + 1) (sn_step E c k r)) := hp
    refine br_f h10 ?_
    cases hb : bt c k
    · rw [sn_step_n hb] at hp'
      refine br_f (sn_bn (by omega) hb) ?_
      unfold wX_reachedOverLines_27
      refine br_t rfl ?_
      refine nm_r (nI_1 k) ?_
      exact ih (k + 1) n r (by omega) (by omega) hp'
    · refine br_t (sn_by (by omega) hb) ?_
      unfold wX_reachedOverLines_27
      refine br_f sn_n1 ⟨hi, ?_⟩
      by_cases h0 : (r &&& E k) = 0
      · rw [sn_step_0 h0] at hp'
        refine br_t (by rw [ek]; exact h0) ?_
        refine nm_r (nI_1 k) ?_
        exact ih (k + 1) n r (by omega) (by omega) hp'
      · rw [sn_step_1 hb h0] at hp'
        refine br_f (by rw [ek]; exact h0) ⟨hi, ?_⟩
        refine nm_r (show r ||| E (nI k).toNatClampNeg = r ||| E k by rw [ek]) ?_
        refine nm_r (nI_1 k) ?_
        exact ih (k + 1) n (r ||| E k) (by omega) (by omega) hp'
theorem sn_xRound (L M : Int32) (E P : Nat → Int32) (c r : Int32) (post : Int32 → Prop) (hp : post (sn_go E c 10 0 r)) : wpX_reachedOverLines post (L, M, E, P) c r :=
  ⟨11, sn_xr L M E P c post 10 0 11 r rfl (by decide) hp⟩
theorem sn_xj (L M : Int32) (E P : Nat → Int32) (c p : Int32) (post : Int32 → Prop) : ∀ (d k n : Nat) (r : Int32), k + d = 7 → d < n → post (sn_jv (sn_rounds E c d r) p) → wX_joins_8 post c p L M E P n r (nI k) := by
  intro d
  induction d with
  | zero =>
    intro k n r hk hn hp
    obtain ⟨n, rfl⟩ : ∃ m, n = m + 1 := ⟨n - 1, by omega⟩
    have e : k = 7 := by omega
    subst e
    refine br_t (nI_le (a := 7) (b := 7) (by decide) (by decide)) ?_
    have hp' : post (sn_jv r p) := hp
    unfold sn_jv at hp'
    by_cases h : (r &&& p) = p
    · rw [if_pos h] at hp'
      exact br_t ((sn_sub p r).mpr h) hp'
    · rw [if_neg h] at hp'
      exact br_f (fun z => h ((sn_sub p r).mp z)) hp'
  | succ d ih =>
    intro k n r hk hn hp
    obtain ⟨n, rfl⟩ : ∃ m, n = m + 1 := ⟨n - 1, by omega⟩
    have h7 : ¬ (7 : Int32) ≤ nI k := nI_ge (b := 7) (by omega) (by decide)
    refine br_f h7 ?_
    refine sn_xRound L M E P c r _ ?_
    refine nm_r (nI_1 k) ?_
    exact ih (k + 1) n _ (by omega) (by omega) hp
theorem sn_xJoins (L M : Int32) (E P : Nat → Int32) (c p : Int32) (post : Int32 → Prop) (hp : post (sn_jv (sn_rounds E c 6 (p &&& (-p))) p)) : wpX_joins post (L, M, E, P) c p := by
  refine nm_e ?_
  exact ⟨7, sn_xj L M E P c p post 6 1 7 _ rfl (by decide) hp⟩
theorem sn_x58 (L M : Int32) (E P : Nat → Int32) (c : Nat) (p q A b l s : Int32) (post : Int32 → Prop) (J : Int32 → Int32 → Int32 → Prop) (h0 : sn_jv (sn_rounds E (nI c) 6 (p &&& (-p))) p = 0 → J b l (nI (c + 1))) (h1 : ¬ sn_jv (sn_rounds E (nI c) 6 (p &&& (-p))) p = 0 → J (nI c) s (nI (c + 1))) : wX_bestChoice_58 post J p q A b l (nI c) s L M E P := by
  unfold wX_bestChoice_58
  refine sn_xJoins L M E P (nI c) p _ ?_
  exact br_c (fun h => nm_r (nI_1 c) (h0 h)) (fun h => nm_r (nI_1 c) (h1 h))
