section
/-! bits and stores: rows pasted from the kit, then our own on single bits -/
def bt (x : Int32) (i : Nat) : Bool := x.toBitVec.getLsbD i
theorem b_ext {x y : Int32} (h : ∀ i, i < 32 → bt x i = bt y i) : x = y := Int32.toBitVec_inj.mp (BitVec.eq_of_getLsbD_eq (fun i hi => h i hi))
theorem b_or (x y : Int32) (i : Nat) : bt (x ||| y) i = (bt x i || bt y i) := by unfold bt; rw [Int32.toBitVec_or, BitVec.getLsbD_or]
theorem b_and (x y : Int32) (i : Nat) : bt (x &&& y) i = (bt x i && bt y i) := by unfold bt; rw [Int32.toBitVec_and, BitVec.getLsbD_and]
theorem b_xor (x y : Int32) (i : Nat) : bt (x ^^^ y) i = (bt x i ^^ bt y i) := by unfold bt; rw [Int32.toBitVec_xor, BitVec.getLsbD_xor]
theorem b_big {x : Int32} {i : Nat} (h : 32 ≤ i) : bt x i = false := BitVec.getLsbD_of_ge _ _ h
theorem b_m1 : ∀ i, i < 32 → bt (-1) i = true := by decide +kernel
theorem b_0 (i : Nat) : bt 0 i = false := BitVec.getLsbD_zero
theorem s_l : ∀ n, n < 32 → ((nI n &&& 31).toBitVec.smod 32).toNat = n := by decide +kernel
theorem b_shl (n : Nat) (hn : n < 32) (x : Int32) {i : Nat} (hi : i < 32) : bt (x <<< (nI n &&& 31)) i = (decide (n ≤ i) && bt x (i - n)) := by
  unfold bt
  rw [Int32.toBitVec_shiftLeft]
  show (x.toBitVec <<< ((nI n &&& 31).toBitVec.smod 32).toNat).getLsbD i = _
  rw [s_l n hn, BitVec.getLsbD_shiftLeft]
  rcases Nat.lt_or_ge i n with h | h
  · simp [h, Nat.not_le.mpr h]
  · simp [hi, h, Nat.not_lt.mpr h]
theorem b_sshr (n : Nat) (hn : n < 32) (x : Int32) {i : Nat} (hi : i < 32) : bt (x >>> (nI n &&& 31)) i = if n + i < 32 then bt x (n + i) else bt x 31 := by
  unfold bt
  rw [Int32.toBitVec_shiftRight]
  show (x.toBitVec.sshiftRight ((nI n &&& 31).toBitVec.smod 32).toNat).getLsbD i = _
  rw [s_l n hn, BitVec.getLsbD_sshiftRight, BitVec.msb_eq_getLsbD_last]
  simp [hi]
theorem pk_us {f : Nat → Int32} {k : Nat} {x : Int32} : upd f k x k = x := if_pos rfl
theorem pk_un {f : Nat → Int32} {k j : Nat} {x : Int32} (h : j ≠ k) : upd f k x j = f j := if_neg h
theorem pk_ix (x : Int32) {n : Nat} (hn : n < 2 ^ 31) : x < 0 ∨ nI n ≤ x ∨ ∃ j : Nat, j < n ∧ x = nI j := by
  by_cases h : x < 0
  · exact Or.inl h
  · obtain ⟨j, hj, rfl⟩ := nI_of h
    by_cases h2 : j < n
    · exact Or.inr (Or.inr ⟨j, h2, rfl⟩)
    · exact Or.inr (Or.inl (nI_le (by omega) hj))
theorem pk_le {x y : Int32} {A B : Prop} (a b : Nat) (f : a ≤ b → A) (g : b < a → B) (hx : x = nI a := by rfl) (hy : y = nI b := by rfl) (ha : a < 2 ^ 31 := by omega) (hb : b < 2 ^ 31 := by omega) : (x ≤ y → A) ∧ (¬ x ≤ y → B) := by
  subst hx hy
  rw [nI_leI ha hb]
  exact ⟨f, fun z => g (by omega)⟩
theorem pk_lt {x y : Int32} {A B : Prop} (a b : Nat) (f : a < b → A) (g : b ≤ a → B) (hx : x = nI a := by rfl) (hy : y = nI b := by rfl) (ha : a < 2 ^ 31 := by omega) (hb : b < 2 ^ 31 := by omega) : (x < y → A) ∧ (¬ x < y → B) := by
  subst hx hy
  rw [nI_ltI ha hb]
  exact ⟨f, fun z => g (by omega)⟩
theorem pk_eq {x y : Int32} {A B : Prop} (a b : Nat) (f : a = b → A) (g : a ≠ b → B) (hx : x = nI a := by rfl) (hy : y = nI b := by rfl) (ha : a < 2 ^ 31 := by omega) (hb : b < 2 ^ 31 := by omega) : (x = y → A) ∧ (¬ x = y → B) := by
  subst hx hy
  rw [nI_eq ha hb]
  exact ⟨f, g⟩
theorem pk_in {x : Int32} (n N : Nat) (h : n < N) (hx : x = nI n := by rfl) (hN : N < 2 ^ 31 := by omega) : vp_in x N := by
  subst hx
  exact vp_in_nI h hN
theorem pk_cl {x : Int32} (n : Nat) (hx : x = nI n := by rfl) (h : n < 2 ^ 31 := by omega) : x.toNatClampNeg = n := by
  subst hx
  exact nI_clamp h
theorem sn_b1 (i : Nat) : bt 1 i = decide (i = 0) := by
  rcases Nat.lt_or_ge i 32 with h | h
  · exact (by decide +kernel : ∀ i, i < 32 → bt 1 i = decide (i = 0)) i h
  · rw [b_big h, decide_eq_false (by omega)]
/-- a truth as the machine holds it -/
def sn_v (b : Bool) : Int32 := if b = true then 1 else 0
theorem sn_vt {b : Bool} (h : b = true) : sn_v b = 1 := if_pos h
theorem sn_vf {b : Bool} (h : b = false) : sn_v b = 0 := if_neg (by rw [h]; decide)
theorem sn_v1 {b : Bool} : sn_v b = 1 ↔ b = true := by cases b <;> decide
theorem sn_v0 {b : Bool} : sn_v b = 0 ↔ b = false := by cases b <;> decide
theorem sn_bv (b : Bool) (i : Nat) : bt (sn_v b) i = (b && decide (i = 0)) := by
  cases b
  · rw [sn_vf rfl, b_0, Bool.false_and]
  · rw [sn_vt rfl, sn_b1, Bool.true_and]
/-- (x >> k) & 1 is the bit k of x -/
theorem sn_bit (x : Int32) (k : Nat) (hk : k < 32) : ((x >>> (nI k &&& 31)) &&& 1) = sn_v (bt x k) := by
  apply b_ext
  intro i hi
  rw [b_and, b_sshr k hk x hi, sn_b1, sn_bv]
  by_cases h : i = 0
  · subst h
    rw [Nat.add_zero, if_pos hk]
  · rw [decide_eq_false h, Bool.and_false, Bool.and_false]
/-- 1 << k has the bit k alone -/
theorem sn_one (k : Nat) (hk : k < 32) {i : Nat} (hi : i < 32) : bt ((1 : Int32) <<< (nI k &&& 31)) i = decide (i = k) := by
  rw [b_shl k hk 1 hi, sn_b1]
  by_cases h : i = k
  · subst h
    simp
  · by_cases h2 : k ≤ i
    · have h3 : ¬ i - k = 0 := by omega
      rw [decide_eq_false h, decide_eq_false h3, Bool.and_false]
    · rw [decide_eq_false h2, Bool.false_and, decide_eq_false h]
theorem sn_not (x : Int32) {i : Nat} (hi : i < 32) : bt (x ^^^ (-1)) i = !bt x i := by
  rw [b_xor, b_m1 i hi, Bool.xor_true]
theorem sn_set (x : Int32) (k : Nat) (hk : k < 32) {i : Nat} (hi : i < 32) : bt (x ||| ((1 : Int32) <<< (nI k &&& 31))) i = (bt x i || decide (i = k)) := by
  rw [b_or, sn_one k hk hi]
theorem sn_clr (x : Int32) (k : Nat) (hk : k < 32) {i : Nat} (hi : i < 32) : bt (x &&& (((1 : Int32) <<< (nI k &&& 31)) ^^^ (-1))) i = (bt x i && !decide (i = k)) := by
  rw [b_and, sn_not _ hi, sn_one k hk hi]
theorem sn_zero (x : Int32) : x = 0 ↔ ∀ i, i < 32 → bt x i = false :=
  ⟨fun h i _ => by rw [h]; exact b_0 i, fun h => b_ext (fun i hi => by rw [h i hi, b_0])⟩
theorem sn_nI (c i : Nat) : bt (nI c) i = (decide (i < 32) && c.testBit i) := by
  show (BitVec.ofNat 32 c).getLsbD i = _
  rw [BitVec.getLsbD_ofNat]
theorem sn_hi {c i : Nat} (hc : c < 1024) (hi : 10 ≤ i) : bt (nI c) i = false := by
  have h : 2 ^ 10 ≤ 2 ^ i := Nat.pow_le_pow_right (by decide) hi
  rw [sn_nI, Nat.testBit_lt_two_pow (by omega), Bool.and_false]
theorem sn_lo {c i : Nat} (hc : c < 1024) (hb : bt (nI c) i = true) : i < 10 := by
  rcases Nat.lt_or_ge i 10 with h | h
  · exact h
  · rw [sn_hi hc h] at hb
    cases hb
/-- (p & ~r) == 0 asks what (r & p) == p asks -/
theorem sn_sub (p r : Int32) : (p &&& (r ^^^ (-1))) = 0 ↔ (r &&& p) = p := by
  constructor
  · intro h
    apply b_ext
    intro i hi
    have h2 := (sn_zero _).mp h i hi
    rw [b_and, sn_not r hi] at h2
    rw [b_and]
    revert h2
    cases bt p i <;> cases bt r i <;> simp
  · intro h
    apply (sn_zero _).mpr
    intro i hi
    have h2 : bt (r &&& p) i = bt p i := by rw [h]
    rw [b_and] at h2
    rw [b_and, sn_not r hi]
    revert h2
    cases bt p i <;> cases bt r i <;> simp
/-- the choice c has allowed lines alone: it has none that are out, and all its lines are there -/
theorem sn_cond {A L O : Int32} {c : Nat} (hc : c < 1024) (hA : ∀ k, k < 10 → bt A k = (bt L k && !bt O k)) :
    (nI c &&& (A ^^^ (-1))) = 0 ↔ ((nI c &&& O) = 0 ∧ ∀ k, k < 10 → bt (nI c) k = true → bt L k = true) := by
  rw [sn_zero, sn_zero]
  constructor
  · intro h
    have key : ∀ k, k < 10 → bt (nI c) k = true → bt L k = true ∧ bt O k = false := by
      intro k hk hb
      have h2 := h k (by omega)
      rw [b_and, sn_not A (by omega), hA k hk, hb] at h2
      revert h2
      cases bt L k <;> cases bt O k <;> simp
    refine ⟨fun i hi => ?_, fun k hk hb => (key k hk hb).1⟩
    rw [b_and]
    cases hb : bt (nI c) i
    · rfl
    · rw [(key i (sn_lo hc hb) hb).2]
      rfl
  · intro ⟨h1, h2⟩ i hi
    rw [b_and, sn_not A hi]
    cases hb : bt (nI c) i
    · rfl
    · have h3 := h1 i hi
      rw [b_and, hb] at h3
      rw [hA i (sn_lo hc hb), h2 i (sn_lo hc hb) hb]
      revert h3
      cases bt O i <;> simp
end
section
/-! the pure pictures: a round over the lines, the rounds, the price of a choice -/
/-- one line of one round: the ends of a chosen line that meets what is reached -/
def sn_step (E : Nat → Int32) (c : Int32) (k : Nat) (r : Int32) : Int32 :=
  if bt c k = true then (if (r &&& E k) = 0 then r else r ||| E k) else r
def sn_go (E : Nat → Int32) (c : Int32) : Nat → Nat → Int32 → Int32
  | 0, _, r => r
  | d + 1, k, r => sn_go E c d (k + 1) (sn_step E c k r)
def sn_rounds (E : Nat → Int32) (c : Int32) : Nat → Int32 → Int32
  | 0, r => r
  | d + 1, r => sn_rounds E c d (sn_go E c 10 0 r)
theorem sn_step_n {E : Nat → Int32} {c : Int32} {k : Nat} {r : Int32} (h : bt c k = false) : sn_step E c k r = r := if_neg (by rw [h]; decide)
theorem sn_step_0 {E : Nat → Int32} {c : Int32} {k : Nat} {r : Int32} (h : (r &&& E k) = 0) : sn_step E c k r = r := by
  unfold sn_step
  rw [if_pos h]
  split <;> rfl
theorem sn_step_1 {E : Nat → Int32} {c : Int32} {k : Nat} {r : Int32} (hb : bt c k = true) (h : ¬ (r &&& E k) = 0) : sn_step E c k r = r ||| E k := by
  unfold sn_step
  rw [if_pos hb, if_neg h]
theorem sn_go_eq {E F : Nat → Int32} {c : Int32} : ∀ (d k : Nat) (r : Int32), (∀ j, k ≤ j → j < k + d → bt c j = true → E j = F j) → sn_go E c d k r = sn_go F c d k r := by
  intro d
  induction d with
  | zero =>
    intro k r _
    rfl
  | succ d ih =>
    intro k r h
    have e : sn_step E c k r = sn_step F c k r := by
      unfold sn_step
      by_cases hb : bt c k = true
      · rw [if_pos hb, if_pos hb, h k (Nat.le_refl _) (by omega) hb]
      · rw [if_neg hb, if_neg hb]
    show sn_go E c d (k + 1) (sn_step E c k r) = sn_go F c d (k + 1) (sn_step F c k r)
    rw [e]
    exact ih (k + 1) _ (fun j h1 h2 hb => h j (by omega) (by omega) hb)
theorem sn_rounds_eq {E F : Nat → Int32} {c : Int32} (h : ∀ j, j < 10 → bt c j = true → E j = F j) : ∀ (d : Nat) (r : Int32), sn_rounds E c d r = sn_rounds F c d r := by
  intro d
  induction d with
  | zero =>
    intro r
    rfl
  | succ d ih =>
    intro r
    show sn_rounds E c d (sn_go E c 10 0 r) = sn_rounds F c d (sn_go F c 10 0 r)
    rw [sn_go_eq 10 0 r (fun j _ h2 hb => h j (by omega) hb)]
    exact ih _
/-- the sum of the prices of the chosen lines -/
def sn_sum (P : Nat → Int32) (c : Int32) : Nat → Nat → Int32 → Int32
  | 0, _, s => s
  | d + 1, k, s => sn_sum P c d (k + 1) (if bt c k = true then s + P k else s)
theorem sn_sum_1 {P : Nat → Int32} {c : Int32} {d k : Nat} {s : Int32} (h : bt c k = true) : sn_sum P c (d + 1) k s = sn_sum P c d (k + 1) (s + P k) := by
  show sn_sum P c d (k + 1) (if bt c k = true then s + P k else s) = _
  rw [if_pos h]
theorem sn_sum_0 {P : Nat → Int32} {c : Int32} {d k : Nat} {s : Int32} (h : bt c k = false) : sn_sum P c (d + 1) k s = sn_sum P c d (k + 1) s := by
  show sn_sum P c d (k + 1) (if bt c k = true then s + P k else s) = _
  rw [if_neg (by rw [h]; decide)]
theorem sn_sum_in {P : Nat → Int32} {c : Int32} (h : ∀ k, k < 10 → 0 ≤ (P k).toInt ∧ (P k).toInt ≤ 100) : ∀ (d k : Nat) (s : Int32), k + d ≤ 10 → 0 ≤ s.toInt → s.toInt ≤ 100 * k → 0 ≤ (sn_sum P c d k s).toInt := by
  intro d
  induction d with
  | zero =>
    intro k s _ h0 _
    exact h0
  | succ d ih =>
    intro k s hk h0 h1
    have hp := h k (by omega)
    have e : (s + P k).toInt = s.toInt + (P k).toInt := by
      rw [Int32.toInt_add]
      exact Int.bmod_eq_of_le (by omega) (by omega)
    cases hb : bt c k
    · rw [sn_sum_0 hb]
      exact ih (k + 1) s (by omega) h0 (by omega)
    · rw [sn_sum_1 hb]
      exact ih (k + 1) _ (by omega) (by omega) (by omega)
/-- the reference's price: -1 where a chosen line is not there -/
def sn_pY (T P : Nat → Int32) (c : Int32) : Nat → Nat → Int32 → Int32
  | 0, _, s => s
  | d + 1, k, s => if bt c k = true then (if T k = 0 then -1 else sn_pY T P c d (k + 1) (s + P k)) else sn_pY T P c d (k + 1) s
theorem sn_pY_n {T P : Nat → Int32} {c : Int32} {d k : Nat} {s : Int32} (h : bt c k = false) : sn_pY T P c (d + 1) k s = sn_pY T P c d (k + 1) s := if_neg (by rw [h]; decide)
theorem sn_pY_0 {T P : Nat → Int32} {c : Int32} {d k : Nat} {s : Int32} (h : bt c k = true) (ht : T k = 0) : sn_pY T P c (d + 1) k s = -1 := by
  show (if bt c k = true then (if T k = 0 then -1 else sn_pY T P c d (k + 1) (s + P k)) else sn_pY T P c d (k + 1) s) = -1
  rw [if_pos h, if_pos ht]
theorem sn_pY_1 {T P : Nat → Int32} {c : Int32} {d k : Nat} {s : Int32} (h : bt c k = true) (ht : ¬ T k = 0) : sn_pY T P c (d + 1) k s = sn_pY T P c d (k + 1) (s + P k) := by
  show (if bt c k = true then (if T k = 0 then -1 else sn_pY T P c d (k + 1) (s + P k)) else sn_pY T P c d (k + 1) s) = _
  rw [if_pos h, if_neg ht]
theorem sn_pY_all {T P : Nat → Int32} {c : Int32} : ∀ (d k : Nat) (s : Int32), (∀ j, k ≤ j → j < k + d → bt c j = true → ¬ T j = 0) → sn_pY T P c d k s = sn_sum P c d k s := by
  intro d
  induction d with
  | zero =>
    intro k s _
    rfl
  | succ d ih =>
    intro k s h
    have h' : ∀ j, k + 1 ≤ j → j < k + 1 + d → bt c j = true → ¬ T j = 0 := fun j h1 h2 hb => h j (by omega) (by omega) hb
    cases hb : bt c k
    · rw [sn_sum_0 hb, sn_pY_n hb]
      exact ih (k + 1) s h'
    · rw [sn_sum_1 hb, sn_pY_1 hb (h k (Nat.le_refl _) (by omega) hb)]
      exact ih (k + 1) _ h'
theorem sn_pY_not {T P : Nat → Int32} {c : Int32} : ∀ (d k : Nat) (s : Int32) (j : Nat), k ≤ j → j < k + d → bt c j = true → T j = 0 → sn_pY T P c d k s = -1 := by
  intro d
  induction d with
  | zero =>
    intro k s j h1 h2
    omega
  | succ d ih =>
    intro k s j h1 h2 hb ht
    by_cases e : j = k
    · subst e
      exact sn_pY_0 hb ht
    · cases hk : bt c k
      · rw [sn_pY_n hk]
        exact ih (k + 1) s j (by omega) (by omega) hb ht
      · by_cases h0 : T k = 0
        · exact sn_pY_0 hk h0
        · rw [sn_pY_1 hk h0]
          exact ih (k + 1) _ j (by omega) (by omega) hb ht
end
section
/-! the component's walks: each method of its own against its pure picture, with a general post -/
theorem sn_by {c : Int32} {k : Nat} (hk : k < 32) (h : bt c k = true) : ((c >>> (nI k &&& 31)) &&& 1) = 1 := by
  rw [sn_bit c k hk, sn_vt h]
theorem sn_bn {c : Int32} {k : Nat} (hk : k < 32) (h : bt c k = false) : ¬ ((c >>> (nI k &&& 31)) &&& 1) = 1 := by
  rw [sn_bit c k hk, sn_vf h]
  decide
theorem sn_n1 : ¬ (1 : Int32) = 0 := by decide
/-- what joins answers -/
def sn_jv (r p : Int32) : Int32 := if (r &&& p) = p then 1 else 0
theorem sn_xp (L M : Int32) (E P : Nat → Int32) (c : Int32) (post : Int32 → Prop) : ∀ (d k n : Nat) (s : Int32), k + d = 10 → d < n → post (sn_sum P c d k s) → wX_priceOfChoice_4 post c L M E P n s (nI k) := by
  intro d
  induction d with
  | zero =>
    intro k n s hk hn hp
    obtain ⟨n, rfl⟩ : ∃ m, n = m + 1 := ⟨n - 1, by omega⟩
    have e : k = 10 := by omega
    subst e
    exact br_t (nI_le (a := 10) (b := 10) (by decide) (by decide)) hp
  | succ d ih =>
    intro k n s hk hn hp
    obtain ⟨n, rfl⟩ : ∃ m, n = m + 1 := ⟨n - 1, by omega⟩
    have h10 : ¬ (10 : Int32) ≤ nI k := nI_ge (b := 10) (by omega) (by decide)
    have hi : vp_in (nI k) 10 := vp_in_nI (by omega) (by omega)
    refine br_f h10 ?_
    cases hb : bt c k
    · rw [sn_sum_0 hb] at hp
      refine br_f (sn_bn (by omega) hb) ?_
      refine nm_r (nI_1 k) ?_
      exact ih (k + 1) n s (by omega) (by omega) hp
    · rw [sn_sum_1 hb] at hp
      refine br_t (sn_by (by omega) hb) ⟨hi, ?_⟩
      refine nm_r (show s + P (nI k).toNatClampNeg = s + P k by rw [nI_clamp (by omega)]) ?_
      refine nm_r (nI_1 k) ?_
      exact ih (k + 1) n (s + P k) (by omega) (by omega) hp
theorem sn_xPrice (L M : Int32) (E P : Nat → Int32) (c : Int32) (post : Int32 → Prop) (hp : post (sn_sum P c 10 0 0)) : wpX_priceOfChoice post (L, M, E, P) c :=
  ⟨11, sn_xp L M E P c post 10 0 11 0 rfl (by decide) hp⟩
theorem sn_xr (L M : Int32) (E P : Nat → Int32) (c : Int32) (post : Int32 → Prop) : ∀ (d k n : Nat) (r : Int32), k + d = 10 → d < n → post (sn_go E c d k r) → wX_reachedOverLines_5 post c L M E P n r (nI k) := by
  intro d
  induction d with
  | zero =>
    intro k n r hk hn hp
    obtain ⟨n, rfl⟩ : ∃ m, n = m + 1 := ⟨n - 1, by omega⟩
    have e : k = 10 := by omega
    subst e
    exact br_t (nI_le (a := 10) (b := 10) (by decide) (by decide)) hp
  | succ d ih =>
    intro k n r hk hn hp
    obtain ⟨n, rfl⟩ : ∃ m, n = m + 1 := ⟨n - 1, by omega⟩
    have h10 : ¬ (10 : Int32) ≤ nI k := nI_ge (b := 10) (by omega) (by decide)
    have hi : vp_in (nI k) 10 := vp_in_nI (by omega) (by omega)
    have ek : E (nI k).toNatClampNeg = E k := by rw [nI_clamp (by omega)]
    have hp' : post (sn_go E c d (k + 1) (sn_step E c k r)) := hp
    refine br_f h10 ?_
    cases hb : bt c k
    · rw [sn_step_n hb] at hp'
      refine br_f (sn_bn (by omega) hb) ?_
      unfold wX_reachedOverLines_27
      refine br_t rfl ?_
      refine nm_r (nI_1 k) ?_
      exact ih (k + 1) n r (by omega) (by omega) hp'
    · refine br_t (sn_by (by omega) hb) ?_
      unfold wX_reachedOverLines_27
      refine br_f sn_n1 ⟨hi, ?_⟩
      by_cases h0 : (r &&& E k) = 0
      · rw [sn_step_0 h0] at hp'
        refine br_t (by rw [ek]; exact h0) ?_
        refine nm_r (nI_1 k) ?_
        exact ih (k + 1) n r (by omega) (by omega) hp'
      · rw [sn_step_1 hb h0] at hp'
        refine br_f (by rw [ek]; exact h0) ⟨hi, ?_⟩
        refine nm_r (show r ||| E (nI k).toNatClampNeg = r ||| E k by rw [ek]) ?_
        refine nm_r (nI_1 k) ?_
        exact ih (k + 1) n (r ||| E k) (by omega) (by omega) hp'
theorem sn_xRound (L M : Int32) (E P : Nat → Int32) (c r : Int32) (post : Int32 → Prop) (hp : post (sn_go E c 10 0 r)) : wpX_reachedOverLines post (L, M, E, P) c r :=
  ⟨11, sn_xr L M E P c post 10 0 11 r rfl (by decide) hp⟩
theorem sn_xj (L M : Int32) (E P : Nat → Int32) (c p : Int32) (post : Int32 → Prop) : ∀ (d k n : Nat) (r : Int32), k + d = 7 → d < n → post (sn_jv (sn_rounds E c d r) p) → wX_joins_8 post c p L M E P n r (nI k) := by
  intro d
  induction d with
  | zero =>
    intro k n r hk hn hp
    obtain ⟨n, rfl⟩ : ∃ m, n = m + 1 := ⟨n - 1, by omega⟩
    have e : k = 7 := by omega
    subst e
    refine br_t (nI_le (a := 7) (b := 7) (by decide) (by decide)) ?_
    have hp' : post (sn_jv r p) := hp
    unfold sn_jv at hp'
    by_cases h : (r &&& p) = p
    · rw [if_pos h] at hp'
      exact br_t ((sn_sub p r).mpr h) hp'
    · rw [if_neg h] at hp'
      exact br_f (fun z => h ((sn_sub p r).mp z)) hp'
  | succ d ih =>
    intro k n r hk hn hp
    obtain ⟨n, rfl⟩ : ∃ m, n = m + 1 := ⟨n - 1, by omega⟩
    have h7 : ¬ (7 : Int32) ≤ nI k := nI_ge (b := 7) (by omega) (by decide)
    refine br_f h7 ?_
    refine sn_xRound L M E P c r _ ?_
    refine nm_r (nI_1 k) ?_
    exact ih (k + 1) n _ (by omega) (by omega) hp
theorem sn_xJoins (L M : Int32) (E P : Nat → Int32) (c p : Int32) (post : Int32 → Prop) (hp : post (sn_jv (sn_rounds E c 6 (p &&& (-p))) p)) : wpX_joins post (L, M, E, P) c p := by
  refine nm_e ?_
  exact ⟨7, sn_xj L M E P c p post 6 1 7 _ rfl (by decide) hp⟩
theorem sn_x58 (L M : Int32) (E P : Nat → Int32) (c : Nat) (p q A b l s : Int32) (post : Int32 → Prop) (J : Int32 → Int32 → Int32 → Prop) (h0 : sn_jv (sn_rounds E (nI c) 6 (p &&& (-p))) p = 0 → J b l (nI (c + 1))) (h1 : ¬ sn_jv (sn_rounds E (nI c) 6 (p &&& (-p))) p = 0 → J (nI c) s (nI (c + 1))) : wX_bestChoice_58 post J p q A b l (nI c) s L M E P := by
  unfold wX_bestChoice_58
  refine sn_xJoins L M E P (nI c) p _ ?_
  exact br_c (fun h => nm_r (nI_1 c) (h0 h)) (fun h => nm_r (nI_1 c) (h1 h))
end
section
/-! the reference's walks against the same pictures -/
/-- the two ends of a line, as the reference makes them of its arrays -/
def sn_E (F O : Nat → Int32) (k : Nat) : Int32 := ((1 : Int32) <<< (F k &&& 31)) ||| ((1 : Int32) <<< (O k &&& 31))
theorem sn_yp (T F O P K : Nat → Int32) (c : Int32) (post : Int32 → Prop) : ∀ (d k n : Nat) (s : Int32), k + d = 10 → d < n → post (sn_pY T P c d k s) → wY_priceOf_4 post c T F O P K n s (nI k) := by
  intro d
  induction d with
  | zero =>
    intro k n s hk hn hp
    obtain ⟨n, rfl⟩ : ∃ m, n = m + 1 := ⟨n - 1, by omega⟩
    have e : k = 10 := by omega
    subst e
    exact br_t (nI_le (a := 10) (b := 10) (by decide) (by decide)) hp
  | succ d ih =>
    intro k n s hk hn hp
    obtain ⟨n, rfl⟩ : ∃ m, n = m + 1 := ⟨n - 1, by omega⟩
    have h10 : ¬ (10 : Int32) ≤ nI k := nI_ge (b := 10) (by omega) (by decide)
    have hi : vp_in (nI k) 10 := vp_in_nI (by omega) (by omega)
    have ek : T (nI k).toNatClampNeg = T k := by rw [nI_clamp (by omega)]
    refine br_f h10 ?_
    cases hb : bt c k
    · rw [sn_pY_n hb] at hp
      refine br_f (sn_bn (by omega) hb) ?_
      refine nm_r (nI_1 k) ?_
      exact ih (k + 1) n s (by omega) (by omega) hp
    · refine br_t (sn_by (by omega) hb) ⟨hi, ?_⟩
      by_cases h0 : T k = 0
      · rw [sn_pY_0 hb h0] at hp
        exact br_t (by rw [ek]; exact h0) hp
      · rw [sn_pY_1 hb h0] at hp
        refine br_f (by rw [ek]; exact h0) ⟨hi, ?_⟩
        refine nm_r (show s + P (nI k).toNatClampNeg = s + P k by rw [nI_clamp (by omega)]) ?_
        refine nm_r (nI_1 k) ?_
        exact ih (k + 1) n (s + P k) (by omega) (by omega) hp
theorem sn_yPrice (T F O P K : Nat → Int32) (c : Int32) (post : Int32 → Prop) (hp : post (sn_pY T P c 10 0 0)) : wpY_priceOf post (T, F, O, P, K) c :=
  ⟨11, sn_yp T F O P K c post 10 0 11 0 rfl (by decide) hp⟩
theorem sn_yr (T F O P K : Nat → Int32) (c p x4 : Int32) (post : Int32 → Prop) (J : Int32 → Int32 → Prop) : ∀ (d k n : Nat) (r : Int32), k + d = 10 → d < n → J (sn_go (sn_E F O) c d k r) (x4 + 1) → wY_joins_18 post J c p x4 T F O P K n r (nI k) := by
  intro d
  induction d with
  | zero =>
    intro k n r hk hn hp
    obtain ⟨n, rfl⟩ : ∃ m, n = m + 1 := ⟨n - 1, by omega⟩
    have e : k = 10 := by omega
    subst e
    exact br_t (nI_le (a := 10) (b := 10) (by decide) (by decide)) (nm_e hp)
  | succ d ih =>
    intro k n r hk hn hp
    obtain ⟨n, rfl⟩ : ∃ m, n = m + 1 := ⟨n - 1, by omega⟩
    have h10 : ¬ (10 : Int32) ≤ nI k := nI_ge (b := 10) (by omega) (by decide)
    have hi : vp_in (nI k) 10 := vp_in_nI (by omega) (by omega)
    have hp' : J (sn_go (sn_E F O) c d (k + 1) (sn_step (sn_E F O) c k r)) (x4 + 1) := hp
    refine br_f h10 ⟨hi, hi, ?_⟩
    refine nm_r (show ((1 : Int32) <<< (F (nI k).toNatClampNeg &&& 31)) ||| ((1 : Int32) <<< (O (nI k).toNatClampNeg &&& 31)) = sn_E F O k by rw [nI_clamp (by omega)]; rfl) ?_
    cases hb : bt c k
    · rw [sn_step_n hb] at hp'
      refine br_f (sn_bn (by omega) hb) ?_
      refine nm_r (nI_1 k) ?_
      exact ih (k + 1) n r (by omega) (by omega) hp'
    · refine br_t (sn_by (by omega) hb) ?_
      by_cases h0 : (r &&& sn_E F O k) = 0
      · rw [sn_step_0 h0] at hp'
        refine br_t h0 ?_
        refine nm_r (nI_1 k) ?_
        exact ih (k + 1) n r (by omega) (by omega) hp'
      · rw [sn_step_1 hb h0] at hp'
        refine br_f h0 ?_
        refine nm_e ?_
        refine nm_r (nI_1 k) ?_
        exact ih (k + 1) n (r ||| sn_E F O k) (by omega) (by omega) hp'
theorem sn_yj (T F O P K : Nat → Int32) (c p : Int32) (post : Int32 → Prop) : ∀ (d k n : Nat) (r : Int32), k + d = 6 → d < n → post (sn_jv (sn_rounds (sn_E F O) c d r) p) → wY_joins_8 post c p T F O P K n r (nI k) := by
  intro d
  induction d with
  | zero =>
    intro k n r hk hn hp
    obtain ⟨n, rfl⟩ : ∃ m, n = m + 1 := ⟨n - 1, by omega⟩
    have e : k = 6 := by omega
    subst e
    refine br_t (nI_le (a := 6) (b := 6) (by decide) (by decide)) ?_
    have hp' : post (sn_jv r p) := hp
    unfold sn_jv at hp'
    by_cases h : (r &&& p) = p
    · rw [if_pos h] at hp'
      exact br_t h hp'
    · rw [if_neg h] at hp'
      exact br_f h hp'
  | succ d ih =>
    intro k n r hk hn hp
    obtain ⟨n, rfl⟩ : ∃ m, n = m + 1 := ⟨n - 1, by omega⟩
    have h6 : ¬ (6 : Int32) ≤ nI k := nI_ge (b := 6) (by omega) (by decide)
    have hn' : wY_joins_8 post c p T F O P K n (sn_go (sn_E F O) c 10 0 r) (nI k + 1) := by
      rw [nI_1 k]
      exact ih (k + 1) n _ (by omega) (by omega) hp
    refine br_f h6 ?_
    exact ⟨11, sn_yr T F O P K c p (nI k) post (wY_joins_8 post c p T F O P K n) 10 0 11 r rfl (by decide) hn'⟩
theorem sn_yJoins (T F O P K : Nat → Int32) (c p : Int32) (post : Int32 → Prop) (hp : post (sn_jv (sn_rounds (sn_E F O) c 6 (p &&& (-p))) p)) : wpY_joins post (T, F, O, P, K) c p := by
  refine nm_e ?_
  exact ⟨7, sn_yj T F O P K c p post 6 0 7 _ rfl (by decide) hp⟩
theorem sn_y57 (T F O P K : Nat → Int32) (c : Nat) (p q o b l s : Int32) (post : Int32 → Prop) (J : Int32 → Int32 → Int32 → Prop) (h0 : sn_jv (sn_rounds (sn_E F O) (nI c) 6 (p &&& (-p))) p = 0 → J b l (nI (c + 1))) (h1 : ¬ sn_jv (sn_rounds (sn_E F O) (nI c) 6 (p &&& (-p))) p = 0 → J (nI c) s (nI (c + 1))) : wY_best_57 post J p q o b l (nI c) s T F O P K := by
  unfold wY_best_57
  refine sn_yJoins T F O P K (nI c) p _ ?_
  exact br_c (fun h => nm_r (nI_1 c) (h0 h)) (fun h => nm_r (nI_1 c) (h1 h))
/-- marks(): the loop gathers the bits of M -/
theorem sn_m0 {s M : Int32} {k : Nat} (h : ∀ i, i < 32 → bt s i = (decide (i < k) && bt M i)) (hb : bt M k = false) : ∀ i, i < 32 → bt s i = (decide (i < k + 1) && bt M i) := by
  intro i hi
  rw [h i hi]
  by_cases e : i = k
  · subst e
    rw [hb, Bool.and_false, Bool.and_false]
  · have e2 : decide (i < k) = decide (i < k + 1) := by
      rw [decide_eq_decide]
      omega
    rw [e2]
theorem sn_m1 {s M : Int32} {k : Nat} (hk : k < 32) (h : ∀ i, i < 32 → bt s i = (decide (i < k) && bt M i)) (hb : bt M k = true) : ∀ i, i < 32 → bt (s ||| ((1 : Int32) <<< (nI k &&& 31))) i = (decide (i < k + 1) && bt M i) := by
  intro i hi
  rw [sn_set s k hk hi, h i hi]
  by_cases e : i = k
  · subst e
    simp [hb]
  · have e2 : decide (i < k) = decide (i < k + 1) := by
      rw [decide_eq_decide]
      omega
    rw [e2, decide_eq_false e, Bool.or_false]
theorem sn_ym (T F O P K : Nat → Int32) (M : Int32) (hM : ∀ k, k < 7 → K k = sn_v (bt M k)) (hM2 : ∀ i, 7 ≤ i → i < 32 → bt M i = false) (post : Int32 → Prop) (hp : post M) : ∀ (d k n : Nat) (s : Int32), k + d = 7 → d < n → (∀ i, i < 32 → bt s i = (decide (i < k) && bt M i)) → wY_marks_4 post T F O P K n s (nI k) := by
  intro d
  induction d with
  | zero =>
    intro k n s hk hn hs
    obtain ⟨n, rfl⟩ : ∃ m, n = m + 1 := ⟨n - 1, by omega⟩
    have e : k = 7 := by omega
    subst e
    have es : s = M := by
      apply b_ext
      intro i hi
      rw [hs i hi]
      by_cases h7 : i < 7
      · rw [decide_eq_true h7, Bool.true_and]
      · rw [hM2 i (by omega) hi, Bool.and_false]
    subst es
    exact br_t (nI_le (a := 7) (b := 7) (by decide) (by decide)) hp
  | succ d ih =>
    intro k n s hk hn hs
    obtain ⟨n, rfl⟩ : ∃ m, n = m + 1 := ⟨n - 1, by omega⟩
    have h7 : ¬ (7 : Int32) ≤ nI k := nI_ge (b := 7) (by omega) (by decide)
    have hi : vp_in (nI k) 7 := vp_in_nI (by omega) (by omega)
    have ek : K (nI k).toNatClampNeg = sn_v (bt M k) := by rw [nI_clamp (by omega), hM k (by omega)]
    refine br_f h7 ⟨hi, ?_⟩
    cases hb : bt M k
    · refine br_t (by rw [ek, hb]; decide) ?_
      refine nm_r (nI_1 k) ?_
      exact ih (k + 1) n s (by omega) (by omega) (sn_m0 hs hb)
    · refine br_f (by rw [ek, hb]; decide) ?_
      refine nm_e ?_
      refine nm_r (nI_1 k) ?_
      exact ih (k + 1) n _ (by omega) (by omega) (sn_m1 (by omega) hs hb)
theorem sn_yMarks (T F O P K : Nat → Int32) (M : Int32) (hM : ∀ k, k < 7 → K k = sn_v (bt M k)) (hM2 : ∀ i, 7 ≤ i → i < 32 → bt M i = false) (post : Int32 → Prop) (hp : post M) : wpY_marks post (T, F, O, P, K) :=
  ⟨8, sn_ym T F O P K M hM hM2 post hp 7 0 8 0 rfl (by decide) (fun i _ => by rw [b_0]; simp)⟩
end
section
/-! the choices in lockstep: one answer for both sides, whatever is asked of it -/
theorem sn_neg {j : Nat} (h : j < 1024) : ¬ nI j = -1 := by
  intro e
  have h2 : ¬ nI j < 0 := nI_pos (by omega)
  rw [e] at h2
  exact h2 (by decide)
theorem sn_m1lt : (-1 : Int32) < 0 := by decide
/-- a best so far: none, or the number of a choice whose lines are all there -/
def sn_B (L b : Int32) : Prop := b = -1 ∨ ∃ j, j < 1024 ∧ b = nI j ∧ ∀ k, k < 10 → bt (nI j) k = true → bt L k = true
theorem sn_pay {T P : Nat → Int32} {L : Int32} {c : Int32} (hT : ∀ k, k < 10 → T k = sn_v (bt L k)) (h : ∀ k, k < 10 → bt c k = true → bt L k = true) : sn_pY T P c 10 0 0 = sn_sum P c 10 0 0 := by
  refine sn_pY_all 10 0 0 (fun j _ h2 hb => ?_)
  rw [hT j (by omega), sn_vt (h j (by omega) hb)]
  exact sn_n1
theorem sn_nopay {T P : Nat → Int32} {L : Int32} {c : Int32} (hT : ∀ k, k < 10 → T k = sn_v (bt L k)) (h : ¬ ∀ k, k < 10 → bt c k = true → bt L k = true) : sn_pY T P c 10 0 0 = -1 := by
  have h2 : ∃ j, j < 10 ∧ bt c j = true ∧ bt L j = false := by
    apply Classical.byContradiction
    intro n
    apply h
    intro k hk hb
    cases hL : bt L k
    · exact absurd ⟨k, hk, hb, hL⟩ n
    · rfl
  obtain ⟨j, hj, hb, hL⟩ := h2
  exact sn_pY_not 10 0 0 j (by omega) (by omega) hb (by rw [hT j hj, sn_vf hL])
theorem sn_nn {P : Nat → Int32} {c : Int32} (h : ∀ k, k < 10 → 0 ≤ (P k).toInt ∧ (P k).toInt ≤ 100) : ¬ sn_sum P c 10 0 0 < 0 := by
  have h0 : (0 : Int32).toInt = 0 := by decide
  have h1 := sn_sum_in (c := c) h 10 0 0 (by omega) (by rw [h0]; omega) (by rw [h0]; omega)
  rw [Int32.lt_iff_toInt_lt, h0]
  omega
theorem sn_best {L M : Int32} {E P T F O K : Nat → Int32} (p q A o : Int32) (hT : ∀ k, k < 10 → T k = sn_v (bt L k)) (hE : ∀ k, k < 10 → bt L k = true → E k = sn_E F O k) (hP : ∀ k, k < 10 → 0 ≤ (P k).toInt ∧ (P k).toInt ≤ 100) (hA : ∀ k, k < 10 → bt A k = (bt L k && !bt o k)) :
    ∀ (d c : Nat) (b l : Int32), c + d = 1024 → sn_B L b → ∃ r, sn_B L r ∧ (∀ post : Int32 → Prop, post r → wX_bestChoice_9 post p q A L M E P (d + 1) b l (nI c)) ∧ (∀ post : Int32 → Prop, post r → wY_best_9 post p q o T F O P K (d + 1) b l (nI c)) := by
  intro d
  induction d with
  | zero =>
    intro c b l hc hb
    have e : c = 1024 := by omega
    subst e
    have h : (1024 : Int32) ≤ nI 1024 := nI_le (a := 1024) (b := 1024) (by decide) (by decide)
    exact ⟨b, hb, fun _ hp => br_t h hp, fun _ hp => br_t h hp⟩
  | succ d ih =>
    intro c b l hc hb
    have hc' : c < 1024 := by omega
    have h : ¬ (1024 : Int32) ≤ nI c := nI_ge (b := 1024) (by omega) (by decide)
    obtain ⟨r, hr, hX, hY⟩ := ih (c + 1) b l (by omega) hb
    by_cases h1 : (nI c &&& q) = q
    · by_cases h2 : (nI c &&& o) = 0
      · by_cases h3 : ∀ k, k < 10 → bt (nI c) k = true → bt L k = true
        · have h4 : (nI c &&& (A ^^^ (-1))) = 0 := (sn_cond hc' hA).mpr ⟨h2, h3⟩
          have ey := sn_pay (P := P) hT h3
          have hs := sn_nn (c := nI c) hP
          have ej : sn_rounds E (nI c) 6 (p &&& (-p)) = sn_rounds (sn_E F O) (nI c) 6 (p &&& (-p)) := sn_rounds_eq (fun j hj hbj => hE j hj (h3 j hj hbj)) 6 _
          by_cases ht : b = -1 ∨ ¬ l ≤ sn_sum P (nI c) 10 0 0
          · have take : ∀ r', (sn_jv (sn_rounds E (nI c) 6 (p &&& (-p))) p = 0 → (∀ post : Int32 → Prop, post r' → wX_bestChoice_9 post p q A L M E P (d + 1) b l (nI (c + 1))) ∧ (∀ post : Int32 → Prop, post r' → wY_best_9 post p q o T F O P K (d + 1) b l (nI (c + 1)))) →
                (¬ sn_jv (sn_rounds E (nI c) 6 (p &&& (-p))) p = 0 → (∀ post : Int32 → Prop, post r' → wX_bestChoice_9 post p q A L M E P (d + 1) (nI c) (sn_sum P (nI c) 10 0 0) (nI (c + 1))) ∧ (∀ post : Int32 → Prop, post r' → wY_best_9 post p q o T F O P K (d + 1) (nI c) (sn_sum P (nI c) 10 0 0) (nI (c + 1)))) →
                (∀ post : Int32 → Prop, post r' → wX_bestChoice_9 post p q A L M E P (d + 1 + 1) b l (nI c)) ∧ (∀ post : Int32 → Prop, post r' → wY_best_9 post p q o T F O P K (d + 1 + 1) b l (nI c)) := by
              intro r' g0 g1
              constructor
              · intro post hp
                refine br_f h ?_
                refine br_t h1 ?_
                refine br_t h4 ?_
                refine sn_xPrice L M E P (nI c) _ ?_
                have w := sn_x58 L M E P c p q A b l (sn_sum P (nI c) 10 0 0) post (wX_bestChoice_9 post p q A L M E P (d + 1)) (fun z => (g0 z).1 post hp) (fun z => (g1 z).1 post hp)
                exact br_c (fun _ => w) (fun nb => br_f (ht.resolve_left nb) w)
              · intro post hp
                refine br_f h ?_
                refine br_t h1 ?_
                refine br_t h2 ?_
                refine sn_yPrice T F O P K (nI c) _ ?_
                rw [ey]
                have w := sn_y57 T F O P K c p q o b l (sn_sum P (nI c) 10 0 0) post (wY_best_9 post p q o T F O P K (d + 1)) (fun z => (g0 (by rw [ej]; exact z)).2 post hp) (fun z => (g1 (by rw [ej]; exact z)).2 post hp)
                refine br_f hs ?_
                refine br_c (fun _ => w) (fun nb => br_f (ht.resolve_left ?_) w)
                intro eb
                rw [eb] at nb
                exact nb sn_m1lt
            by_cases hj : sn_jv (sn_rounds E (nI c) 6 (p &&& (-p))) p = 0
            · obtain ⟨gX, gY⟩ := take r (fun _ => ⟨hX, hY⟩) (fun n => absurd hj n)
              exact ⟨r, hr, gX, gY⟩
            · obtain ⟨r2, hr2, hX2, hY2⟩ := ih (c + 1) (nI c) (sn_sum P (nI c) 10 0 0) (by omega) (Or.inr ⟨c, hc', rfl, h3⟩)
              obtain ⟨gX, gY⟩ := take r2 (fun z => absurd z hj) (fun _ => ⟨hX2, hY2⟩)
              exact ⟨r2, hr2, gX, gY⟩
          · have nb : ¬ b = -1 := fun z => ht (Or.inl z)
            have hl : l ≤ sn_sum P (nI c) 10 0 0 := Classical.byContradiction (fun z => ht (Or.inr z))
            have nb2 : ¬ b < 0 := by
              rcases hb with z | ⟨j, hj, ej, _⟩
              · exact absurd z nb
              · rw [ej]
                exact nI_pos (by omega)
            refine ⟨r, hr, fun post hp => ?_, fun post hp => ?_⟩
            · refine br_f h ?_
              refine br_t h1 ?_
              refine br_t h4 ?_
              refine sn_xPrice L M E P (nI c) _ ?_
              exact br_f nb (br_t hl (nm_r (nI_1 c) (hX post hp)))
            · refine br_f h ?_
              refine br_t h1 ?_
              refine br_t h2 ?_
              refine sn_yPrice T F O P K (nI c) _ ?_
              rw [ey]
              exact br_f hs (br_f nb2 (br_t hl (nm_r (nI_1 c) (hY post hp))))
        · have h4 : ¬ (nI c &&& (A ^^^ (-1))) = 0 := fun z => h3 ((sn_cond hc' hA).mp z).2
          refine ⟨r, hr, fun post hp => ?_, fun post hp => ?_⟩
          · refine br_f h ?_
            refine br_t h1 ?_
            exact br_f h4 (nm_r (nI_1 c) (hX post hp))
          · refine br_f h ?_
            refine br_t h1 ?_
            refine br_t h2 ?_
            refine sn_yPrice T F O P K (nI c) _ ?_
            rw [sn_nopay hT h3]
            exact br_t sn_m1lt (nm_r (nI_1 c) (hY post hp))
      · have h4 : ¬ (nI c &&& (A ^^^ (-1))) = 0 := fun z => h2 ((sn_cond hc' hA).mp z).1
        refine ⟨r, hr, fun post hp => ?_, fun post hp => ?_⟩
        · refine br_f h ?_
          refine br_t h1 ?_
          exact br_f h4 (nm_r (nI_1 c) (hX post hp))
        · refine br_f h ?_
          refine br_t h1 ?_
          exact br_f h2 (nm_r (nI_1 c) (hY post hp))
    · refine ⟨r, hr, fun post hp => ?_, fun post hp => ?_⟩
      · refine br_f h ?_
        exact br_f h1 (nm_r (nI_1 c) (hX post hp))
      · refine br_f h ?_
        exact br_f h1 (nm_r (nI_1 c) (hY post hp))
/-- what the two states share -/
def sn_R (L M : Int32) (E P T F O K : Nat → Int32) : Prop :=
  (∀ k, k < 10 → T k = sn_v (bt L k)) ∧ (∀ k, k < 10 → bt L k = true → E k = sn_E F O k) ∧ (∀ k, k < 10 → 0 ≤ (P k).toInt ∧ (P k).toInt ≤ 100) ∧ (∀ k, k < 7 → K k = sn_v (bt M k)) ∧ (∀ i, 7 ≤ i → i < 32 → bt M i = false)
theorem sn_bestM {L M : Int32} {E P T F O K : Nat → Int32} (R : sn_R L M E P T F O K) (p q A o : Int32) (hA : ∀ k, k < 10 → bt A k = (bt L k && !bt o k)) :
    ∃ r, sn_B L r ∧ (∀ post : Int32 → Prop, post r → wpX_bestChoice post (L, M, E, P) p q A) ∧ (∀ post : Int32 → Prop, post r → wpY_best post (T, F, O, P, K) p q o) := by
  obtain ⟨r, hr, hX, hY⟩ := sn_best (M := M) (K := K) p q A o R.1 R.2.1 R.2.2.1 hA 1024 0 (-1) 0 rfl (Or.inl rfl)
  exact ⟨r, hr, fun post hp => ⟨1025, hX post hp⟩, fun post hp => ⟨1025, hY post hp⟩⟩
theorem sn_low {L M : Int32} {E P T F O K : Nat → Int32} (R : sn_R L M E P T F O K) (p q A o : Int32) (hA : ∀ k, k < 10 → bt A k = (bt L k && !bt o k)) :
    ∃ r, (∀ post : Int32 → Prop, post r → wpX_leastPrice post (L, M, E, P) p q A) ∧ (∀ post : Int32 → Prop, post r → wpY_lowest post (T, F, O, P, K) p q o) := by
  obtain ⟨r, hr, hX, hY⟩ := sn_bestM R p q A o hA
  rcases hr with e | ⟨j, hj, e, hall⟩
  · subst e
    refine ⟨-1, fun post hp => ?_, fun post hp => ?_⟩
    · unfold wpX_leastPrice
      dsimp only
      refine hX _ ?_
      exact br_t rfl hp
    · unfold wpY_lowest
      dsimp only
      refine hY _ ?_
      exact br_f (by decide) hp
  · subst e
    refine ⟨sn_sum P (nI j) 10 0 0, fun post hp => ?_, fun post hp => ?_⟩
    · unfold wpX_leastPrice
      dsimp only
      refine hX _ ?_
      refine br_f (sn_neg hj) ?_
      exact sn_xPrice L M E P (nI j) _ hp
    · unfold wpY_lowest
      dsimp only
      refine hY _ ?_
      refine br_t (nI_pos' (by omega)) ?_
      refine sn_yPrice T F O P K (nI j) _ ?_
      rw [sn_pay R.1 hall]
      exact hp
theorem sn_A0 (L : Int32) : ∀ k, k < 10 → bt L k = (bt L k && !bt 0 k) := by
  intro k _
  rw [b_0]
  simp
theorem sn_A1 (L : Int32) {j : Nat} (hj : j < 10) : ∀ k, k < 10 → bt (L &&& (((1 : Int32) <<< (nI j &&& 31)) ^^^ (-1))) k = (bt L k && !bt ((1 : Int32) <<< (nI j &&& 31)) k) := by
  intro k hk
  rw [b_and, sn_not _ (by omega)]
end
section
/-! the numbers of points and lines, the bounds -/
theorem sn_ti0 : (0 : Int32).toInt = 0 := by decide
theorem sn_ng {n : Nat} {x : Int32} (hn : n < 2 ^ 31) (h : nI n ≤ x) : ¬ x < 0 := by
  rw [Int32.le_iff_toInt_le, nI_toInt hn] at h
  rw [Int32.lt_iff_toInt_lt, sn_ti0]
  omega
theorem sn_g9 {x : Int32} (h : nI 10 ≤ x) : 9 < x := by
  have e : (9 : Int32).toInt = 9 := by decide
  rw [Int32.le_iff_toInt_le, nI_toInt (by decide)] at h
  rw [Int32.lt_iff_toInt_lt, e]
  omega
theorem sn_g6 {x : Int32} (h : nI 7 ≤ x) : ¬ x ≤ 6 := by
  have e : (6 : Int32).toInt = 6 := by decide
  rw [Int32.le_iff_toInt_le, nI_toInt (by decide)] at h
  rw [Int32.le_iff_toInt_le, e]
  omega
theorem sn_pr {x : Int32} (h1 : ¬ x < 1) (h2 : x ≤ 100) : 0 ≤ x.toInt ∧ x.toInt ≤ 100 := by
  have e1 : (1 : Int32).toInt = 1 := by decide
  have e2 : (100 : Int32).toInt = 100 := by decide
  rw [Int32.lt_iff_toInt_lt, e1] at h1
  rw [Int32.le_iff_toInt_le, e2] at h2
  omega
theorem sn_nb (v : Int32) : vp_nar .boolean (lw_bz v) = lw_bz v := by
  unfold vp_nar
  rw [lw_bz_n]
theorem sn_nb1 : vp_nar .boolean 1 = 1 := by
  have h := sn_nb 1
  rw [show lw_bz 1 = 1 by decide] at h
  exact h
theorem sn_nb0 : vp_nar .boolean 0 = 0 := by
  have h := sn_nb 0
  rw [show lw_bz 0 = 0 by decide] at h
  exact h
theorem sn_pt (x : Int32) : (∃ j, j < 7 ∧ x = nI j ∧ (∀ post : Int32 → Prop, post 1 → wpX_isPoint post x) ∧ (∀ post : Int32 → Prop, post 0 → wpY_badPoint post x)) ∨ ((∀ post : Int32 → Prop, post 0 → wpX_isPoint post x) ∧ (∀ post : Int32 → Prop, post 1 → wpY_badPoint post x)) := by
  rcases pk_ix x (n := 7) (by decide) with h | h | ⟨j, hj, rfl⟩
  · exact Or.inr ⟨fun _ hp => br_t h hp, fun _ hp => br_t h hp⟩
  · have h0 := sn_ng (by decide) h
    exact Or.inr ⟨fun _ hp => br_f h0 (br_t h hp), fun _ hp => br_f h0 (br_f (sn_g6 h) hp)⟩
  · have h0 : ¬ nI j < 0 := nI_pos (by omega)
    have h7 : ¬ (7 : Int32) ≤ nI j := nI_ge (b := 7) hj (by decide)
    have h6 : nI j ≤ (6 : Int32) := nI_le (b := 6) (by omega) (by decide)
    exact Or.inl ⟨j, hj, rfl, fun _ hp => br_f h0 (br_f h7 hp), fun _ hp => br_f h0 (br_t h6 hp)⟩
theorem sn_ln (x : Int32) : (∃ j, j < 10 ∧ x = nI j ∧ (∀ post : Int32 → Prop, post 1 → wpX_isLineNumber post x) ∧ ¬ x < 0 ∧ ¬ 9 < x) ∨ ((∀ post : Int32 → Prop, post 0 → wpX_isLineNumber post x) ∧ (x < 0 ∨ (¬ x < 0 ∧ 9 < x))) := by
  rcases pk_ix x (n := 10) (by decide) with h | h | ⟨j, hj, rfl⟩
  · exact Or.inr ⟨fun _ hp => br_t h hp, Or.inl h⟩
  · have h0 := sn_ng (by decide) h
    exact Or.inr ⟨fun _ hp => br_f h0 (br_t h hp), Or.inr ⟨h0, sn_g9 h⟩⟩
  · have h0 : ¬ nI j < 0 := nI_pos (by omega)
    have h10 : ¬ (10 : Int32) ≤ nI j := nI_ge (b := 10) hj (by decide)
    have h9 : ¬ (9 : Int32) < nI j := nI_nlt (a := 9) (by omega) (by decide)
    exact Or.inl ⟨j, hj, rfl, fun _ hp => br_f h0 (br_f h10 hp), h0, h9⟩
theorem sn_lt {L M : Int32} {E P T F O K : Nat → Int32} (R : sn_R L M E P T F O K) (x : Int32) : (∃ j, j < 10 ∧ x = nI j ∧ bt L j = true ∧ (∀ post : Int32 → Prop, post 1 → wpX_isLineThere post (L, M, E, P) x) ∧ (∀ post : Int32 → Prop, post 0 → wpY_badLine post (T, F, O, P, K) x)) ∨ ((∀ post : Int32 → Prop, post 0 → wpX_isLineThere post (L, M, E, P) x) ∧ (∀ post : Int32 → Prop, post 1 → wpY_badLine post (T, F, O, P, K) x)) := by
  rcases sn_ln x with ⟨j, hj, rfl, hX, h0, h9⟩ | ⟨hX, hY⟩
  · have hi : vp_in (nI j) 10 := vp_in_nI hj (by decide)
    have et : T (nI j).toNatClampNeg = sn_v (bt L j) := by rw [nI_clamp (by omega), R.1 j hj]
    cases hb : bt L j
    · rw [hb] at et
      refine Or.inr ⟨fun post hp => ?_, fun post hp => ?_⟩
      · unfold wpX_isLineThere
        dsimp only
        refine hX _ ?_
        exact br_f sn_n1 (br_f (sn_bn (by omega) hb) hp)
      · exact br_f h0 (br_f h9 ⟨hi, br_t et hp⟩)
    · rw [hb] at et
      refine Or.inl ⟨j, hj, rfl, hb, fun post hp => ?_, fun post hp => ?_⟩
      · unfold wpX_isLineThere
        dsimp only
        refine hX _ ?_
        exact br_f sn_n1 (br_t (sn_by (by omega) hb) hp)
      · exact br_f h0 (br_f h9 ⟨hi, br_f (by rw [et]; decide) hp⟩)
  · refine Or.inr ⟨fun post hp => ?_, fun post hp => ?_⟩
    · unfold wpX_isLineThere
      dsimp only
      refine hX _ ?_
      exact br_t rfl hp
    · rcases hY with h | ⟨h0, h9⟩
      · exact br_t h hp
      · exact br_f h0 (br_t h9 hp)
/-! the relation after line, cut and mark -/
theorem sn_Rline {L M : Int32} {E P T F O K : Nat → Int32} (R : sn_R L M E P T F O K) {j : Nat} (hj : j < 10) (a b v : Int32) (hv : 0 ≤ v.toInt ∧ v.toInt ≤ 100) : sn_R (L ||| ((1 : Int32) <<< (nI j &&& 31))) M (upd E j (((1 : Int32) <<< (a &&& 31)) ||| ((1 : Int32) <<< (b &&& 31)))) (upd P j v) (upd T j 1) (upd F j a) (upd O j b) K := by
  obtain ⟨hT, hE, hP, hK, hK2⟩ := R
  refine ⟨fun k hk => ?_, fun k hk hb => ?_, fun k hk => ?_, hK, hK2⟩
  · rw [sn_set L j (by omega) (by omega)]
    by_cases e : k = j
    · subst e
      rw [pk_us, decide_eq_true rfl, Bool.or_true]
      rfl
    · rw [pk_un e, decide_eq_false e, Bool.or_false]
      exact hT k hk
  · by_cases e : k = j
    · subst e
      unfold sn_E
      rw [pk_us, pk_us, pk_us]
    · rw [sn_set L j (by omega) (by omega), decide_eq_false e, Bool.or_false] at hb
      unfold sn_E
      rw [pk_un e, pk_un e, pk_un e]
      exact hE k hk hb
  · by_cases e : k = j
    · subst e
      rw [pk_us]
      exact hv
    · rw [pk_un e]
      exact hP k hk
theorem sn_Rcut {L M : Int32} {E P T F O K : Nat → Int32} (R : sn_R L M E P T F O K) {j : Nat} (hj : j < 10) : sn_R (L &&& (((1 : Int32) <<< (nI j &&& 31)) ^^^ (-1))) M E P (upd T j 0) F O K := by
  obtain ⟨hT, hE, hP, hK, hK2⟩ := R
  refine ⟨fun k hk => ?_, fun k hk hb => ?_, hP, hK, hK2⟩
  · rw [sn_clr L j (by omega) (by omega)]
    by_cases e : k = j
    · subst e
      rw [pk_us, decide_eq_true rfl, Bool.not_true, Bool.and_false]
      rfl
    · rw [pk_un e, decide_eq_false e, Bool.not_false, Bool.and_true]
      exact hT k hk
  · rw [sn_clr L j (by omega) (by omega)] at hb
    exact hE k hk (Bool.and_eq_true_iff.mp hb).1
theorem sn_Rset {L M : Int32} {E P T F O K : Nat → Int32} (R : sn_R L M E P T F O K) {j : Nat} (hj : j < 7) : sn_R L (M ||| ((1 : Int32) <<< (nI j &&& 31))) E P T F O (upd K j 1) := by
  obtain ⟨hT, hE, hP, hK, hK2⟩ := R
  refine ⟨hT, hE, hP, fun k hk => ?_, fun i h7 hi => ?_⟩
  · rw [sn_set M j (by omega) (by omega)]
    by_cases e : k = j
    · subst e
      rw [pk_us, decide_eq_true rfl, Bool.or_true]
      rfl
    · rw [pk_un e, decide_eq_false e, Bool.or_false]
      exact hK k hk
  · rw [sn_set M j (by omega) hi, hK2 i h7 hi, decide_eq_false (by omega), Bool.or_false]
theorem sn_Rclr {L M : Int32} {E P T F O K : Nat → Int32} (R : sn_R L M E P T F O K) {j : Nat} (hj : j < 7) : sn_R L (M &&& (((1 : Int32) <<< (nI j &&& 31)) ^^^ (-1))) E P T F O (upd K j 0) := by
  obtain ⟨hT, hE, hP, hK, hK2⟩ := R
  refine ⟨hT, hE, hP, fun k hk => ?_, fun i h7 hi => ?_⟩
  · rw [sn_clr M j (by omega) (by omega)]
    by_cases e : k = j
    · subst e
      rw [pk_us, decide_eq_true rfl, Bool.not_true, Bool.and_false]
      rfl
    · rw [pk_un e, decide_eq_false e, Bool.not_false, Bool.and_true]
      exact hK k hk
  · rw [sn_clr M j (by omega) hi, hK2 i h7 hi, Bool.false_and]
end
section
/-! what is owed -/
/-- one price array for both; lines there, their ends and the marks as sn_R says; k plays no part -/
def i_Rel (_ : Nat) (u : SX) (v : SY) : Prop := ∃ (L M : Int32) (E P T F O K : Nat → Int32), u = (L, M, E, P) ∧ v = (T, F, O, P, K) ∧ sn_R L M E P T F O K
theorem sn_rel {k : Nat} {L M : Int32} {E P T F O K : Nat → Int32} (R : sn_R L M E P T F O K) : i_Rel k (L, M, E, P) (T, F, O, P, K) :=
  ⟨L, M, E, P, T, F, O, K, rfl, rfl, R⟩
theorem i_up {k : Nat} {u : SX} {v : SY} (h : i_Rel k u v) : i_Rel (k + 5) u v := h
theorem i_vc0 : wpX_init (fun u => wpY_init (fun v => i_Rel 0 u v)) := by
  refine sn_rel (k := 0) ⟨fun k _ => ?_, fun k _ hb => ?_, fun k _ => ?_, fun k _ => ?_, fun i _ _ => b_0 i⟩
  · rw [b_0]
    rfl
  · rw [b_0] at hb
    cases hb
  · show 0 ≤ (0 : Int32).toInt ∧ (0 : Int32).toInt ≤ 100
    decide
  · rw [b_0]
    rfl
theorem i_vc_line {k : Nat} {u : SX} {v : SY} (I : i_Rel k u v) (hk : k + 5 ≤ 2560) (v1 : Int32) (v2 : Int32) (v3 : Int32) (v4 : Int32) : wpX_line (fun r u' => wpY_line (fun r' v' => r' = r ∧ i_Rel (k + 5) u' v') v v1 v2 v3 v4) u v1 v2 v3 v4 := by
  obtain ⟨L, M, E, P, T, F, O, K, rfl, rfl, R⟩ := I
  have no : (-2 : Int32) = -2 ∧ i_Rel (k + 5) (L, M, E, P) (T, F, O, P, K) := ⟨rfl, sn_rel R⟩
  unfold wpX_line wpY_line
  dsimp only
  rcases sn_ln v1 with ⟨j, hj, rfl, hX, h0, h9⟩ | ⟨hX, hY⟩
  · refine hX _ ?_
    refine br_f sn_n1 ?_
    rcases sn_pt v2 with ⟨a, ha, -, hXa, hYa⟩ | ⟨hXa, hYa⟩
    · refine hXa _ ?_
      refine br_f sn_n1 ?_
      rcases sn_pt v3 with ⟨b, hb, -, hXb, hYb⟩ | ⟨hXb, hYb⟩
      · refine hXb _ ?_
        refine br_f sn_n1 ?_
        by_cases hab : v2 = v3
        · refine br_t hab ?_
          refine br_f h0 ?_
          refine br_f h9 ?_
          refine hYa _ ?_
          refine br_t rfl ?_
          refine hYb _ ?_
          exact br_t rfl (br_t hab no)
        · refine br_f hab ?_
          by_cases h1 : v4 < 1
          · refine br_t h1 ?_
            refine br_f h0 ?_
            refine br_f h9 ?_
            refine hYa _ ?_
            refine br_t rfl ?_
            refine hYb _ ?_
            exact br_t rfl (br_f hab (br_t h1 no))
          · refine br_f h1 ?_
            by_cases h2 : v4 ≤ 100
            · have hi : vp_in (nI j) 10 := vp_in_nI hj (by decide)
              have ej : (nI j).toNatClampNeg = j := nI_clamp (by omega)
              refine br_t h2 ⟨hi, ?_⟩
              refine nm_r (congrArg (fun z => upd E z _) ej) ⟨hi, ?_⟩
              refine nm_r (congrArg (fun z => upd P z _) ej) ?_
              refine nm_e ?_
              refine br_f h0 ?_
              refine br_f h9 ?_
              refine hYa _ ?_
              refine br_t rfl ?_
              refine hYb _ ?_
              refine br_t rfl ?_
              refine br_f hab ?_
              refine br_f h1 ?_
              refine br_t h2 ⟨hi, ?_⟩
              refine nm_r (show upd T (nI j).toNatClampNeg (vp_nar .boolean 1) = upd T j 1 by rw [ej, sn_nb1]) ⟨hi, ?_⟩
              refine nm_r (congrArg (fun z => upd F z _) ej) ⟨hi, ?_⟩
              refine nm_r (congrArg (fun z => upd O z _) ej) ⟨hi, ?_⟩
              refine nm_r (congrArg (fun z => upd P z _) ej) ?_
              exact ⟨rfl, sn_rel (sn_Rline R hj v2 v3 v4 (sn_pr h1 h2))⟩
            · refine br_f h2 ?_
              refine br_f h0 ?_
              refine br_f h9 ?_
              refine hYa _ ?_
              refine br_t rfl ?_
              refine hYb _ ?_
              exact br_t rfl (br_f hab (br_f h1 (br_f h2 no)))
      · refine hXb _ ?_
        refine br_t rfl ?_
        refine br_f h0 ?_
        refine br_f h9 ?_
        refine hYa _ ?_
        refine br_t rfl ?_
        refine hYb _ ?_
        exact br_f sn_n1 no
    · refine hXa _ ?_
      refine br_t rfl ?_
      refine br_f h0 ?_
      refine br_f h9 ?_
      refine hYa _ ?_
      exact br_f sn_n1 no
  · refine hX _ ?_
    refine br_t rfl ?_
    rcases hY with h | ⟨h0, h9⟩
    · exact br_t h no
    · exact br_f h0 (br_t h9 no)
theorem i_vc_cut {k : Nat} {u : SX} {v : SY} (I : i_Rel k u v) (hk : k + 5 ≤ 2560) (v1 : Int32) : wpX_cut (fun r u' => wpY_cut (fun r' v' => r' = r ∧ i_Rel (k + 5) u' v') v v1) u v1 := by
  obtain ⟨L, M, E, P, T, F, O, K, rfl, rfl, R⟩ := I
  unfold wpX_cut wpY_cut
  dsimp only
  rcases sn_lt R v1 with ⟨j, hj, rfl, hb, hX, hY⟩ | ⟨hX, hY⟩
  · have hi : vp_in (nI j) 10 := vp_in_nI hj (by decide)
    have ej : (nI j).toNatClampNeg = j := nI_clamp (by omega)
    refine hX _ ?_
    refine br_f sn_n1 ?_
    refine nm_e ?_
    refine hY _ ?_
    refine br_t rfl ⟨hi, ?_⟩
    refine nm_r (show upd T (nI j).toNatClampNeg (vp_nar .boolean 0) = upd T j 0 by rw [ej, sn_nb0]) ?_
    exact ⟨rfl, sn_rel (sn_Rcut R hj)⟩
  · refine hX _ ?_
    refine br_t rfl ?_
    refine hY _ ?_
    exact br_f sn_n1 ⟨rfl, sn_rel R⟩
theorem i_vc_mark {k : Nat} {u : SX} {v : SY} (I : i_Rel k u v) (hk : k + 5 ≤ 2560) (v1 : Int32) (v2 : Int32) : wpX_mark (fun r u' => wpY_mark (fun r' v' => r' = r ∧ i_Rel (k + 5) u' v') v v1 (lw_bz v2)) u v1 (lw_bz v2) := by
  obtain ⟨L, M, E, P, T, F, O, K, rfl, rfl, R⟩ := I
  unfold wpX_mark wpY_mark
  dsimp only
  rcases sn_pt v1 with ⟨j, hj, rfl, hX, hY⟩ | ⟨hX, hY⟩
  · have hi : vp_in (nI j) 7 := vp_in_nI hj (by decide)
    have ej : (nI j).toNatClampNeg = j := nI_clamp (by omega)
    have ek : K (nI j).toNatClampNeg = sn_v (bt M j) := by rw [ej, R.2.2.2.1 j hj]
    have eu : upd K (nI j).toNatClampNeg (vp_nar .boolean (lw_bz v2)) = upd K j (lw_bz v2) := by rw [ej, sn_nb]
    refine hX _ ?_
    refine br_f sn_n1 ?_
    refine nm_r (sn_bit M j (by omega)) ?_
    have fin : ∀ M' : Int32, sn_R L M' E P T F O (upd K j (lw_bz v2)) → wpY_badPoint (fun r_1 => (r_1 = 0 → vp_in (nI j) 7 ∧ ((K (nI j).toNatClampNeg = 0 → wY_mark_24 (fun r' v' => r' = sn_v (bt M j) ∧ i_Rel (k + 5) (L, M', E, P) v') (nI j) (lw_bz v2) 0 T F O P K) ∧ (¬ K (nI j).toNatClampNeg = 0 → wY_mark_24 (fun r' v' => r' = sn_v (bt M j) ∧ i_Rel (k + 5) (L, M', E, P) v') (nI j) (lw_bz v2) 1 T F O P K))) ∧ (¬ r_1 = 0 → (-2 : Int32) = sn_v (bt M j) ∧ i_Rel (k + 5) (L, M', E, P) (T, F, O, P, K))) (nI j) := by
      intro M' R'
      refine hY _ ?_
      refine br_t rfl ⟨hi, ?_⟩
      cases hb : bt M j
      · rw [hb] at ek
        refine br_t ek ?_
        refine ⟨hi, ?_⟩
        refine nm_r eu ?_
        exact ⟨rfl, sn_rel R'⟩
      · rw [hb] at ek
        refine br_f (by rw [ek]; decide) ?_
        refine ⟨hi, ?_⟩
        refine nm_r eu ?_
        exact ⟨rfl, sn_rel R'⟩
    rcases lw_bz_01 v2 with e | e
    · refine br_t e ?_
      refine nm_e ?_
      exact fin _ (by rw [e]; exact sn_Rclr R hj)
    · refine br_f (by rw [e]; decide) ?_
      refine nm_e ?_
      exact fin _ (by rw [e]; exact sn_Rset R hj)
  · refine hX _ ?_
    refine br_t rfl ?_
    refine hY _ ?_
    exact br_f sn_n1 ⟨rfl, sn_rel R⟩
theorem i_vc_least {k : Nat} {u : SX} {v : SY} (I : i_Rel k u v) (hk : k + 5 ≤ 2560) : wpX_least (fun r => wpY_least (fun r' => r' = r ∧ i_Rel (k + 5) u v) v) u := by
  obtain ⟨L, M, E, P, T, F, O, K, rfl, rfl, R⟩ := I
  obtain ⟨r, hX, hY⟩ := sn_low R M 0 L 0 (sn_A0 L)
  unfold wpX_least wpY_least
  dsimp only
  refine hX _ ?_
  refine sn_yMarks T F O P K M R.2.2.2.1 R.2.2.2.2 _ ?_
  refine hY _ ?_
  exact ⟨rfl, sn_rel R⟩
theorem i_vc_chosen {k : Nat} {u : SX} {v : SY} (I : i_Rel k u v) (hk : k + 5 ≤ 2560) (v1 : Int32) : wpX_chosen (fun r => wpY_chosen (fun r' => r' = r ∧ i_Rel (k + 5) u v) v v1) u v1 := by
  obtain ⟨L, M, E, P, T, F, O, K, rfl, rfl, R⟩ := I
  unfold wpX_chosen wpY_chosen
  dsimp only
  rcases sn_lt R v1 with ⟨j, hj, rfl, hb, hX, hY⟩ | ⟨hX, hY⟩
  · obtain ⟨r, hr, gX, gY⟩ := sn_bestM R M 0 L 0 (sn_A0 L)
    refine hX _ ?_
    refine br_f sn_n1 ?_
    refine gX _ ?_
    rcases hr with e | ⟨c, hc, e, -⟩
    · subst e
      refine br_t rfl ?_
      refine hY _ ?_
      refine br_t rfl ?_
      refine sn_yMarks T F O P K M R.2.2.2.1 R.2.2.2.2 _ ?_
      refine gY _ ?_
      exact br_f (by decide) ⟨rfl, sn_rel R⟩
    · subst e
      refine br_f (sn_neg hc) ?_
      refine hY _ ?_
      refine br_t rfl ?_
      refine sn_yMarks T F O P K M R.2.2.2.1 R.2.2.2.2 _ ?_
      refine gY _ ?_
      exact br_t (nI_pos' (by omega)) ⟨rfl, sn_rel R⟩
  · refine hX _ ?_
    refine br_t rfl ?_
    refine hY _ ?_
    exact br_f sn_n1 ⟨rfl, sn_rel R⟩
theorem i_vc_with {k : Nat} {u : SX} {v : SY} (I : i_Rel k u v) (hk : k + 5 ≤ 2560) (v1 : Int32) : wpX_with (fun r => wpY_with (fun r' => r' = r ∧ i_Rel (k + 5) u v) v v1) u v1 := by
  obtain ⟨L, M, E, P, T, F, O, K, rfl, rfl, R⟩ := I
  unfold wpX_with wpY_with
  dsimp only
  rcases sn_lt R v1 with ⟨j, hj, rfl, hb, hX, hY⟩ | ⟨hX, hY⟩
  · obtain ⟨r, gX, gY⟩ := sn_low R M ((1 : Int32) <<< (nI j &&& 31)) L 0 (sn_A0 L)
    refine hX _ ?_
    refine br_f sn_n1 ?_
    refine gX _ ?_
    refine hY _ ?_
    refine br_t rfl ?_
    refine sn_yMarks T F O P K M R.2.2.2.1 R.2.2.2.2 _ ?_
    refine gY _ ?_
    exact ⟨rfl, sn_rel R⟩
  · refine hX _ ?_
    refine br_t rfl ?_
    refine hY _ ?_
    exact br_f sn_n1 ⟨rfl, sn_rel R⟩
theorem i_vc_without {k : Nat} {u : SX} {v : SY} (I : i_Rel k u v) (hk : k + 5 ≤ 2560) (v1 : Int32) : wpX_without (fun r => wpY_without (fun r' => r' = r ∧ i_Rel (k + 5) u v) v v1) u v1 := by
  obtain ⟨L, M, E, P, T, F, O, K, rfl, rfl, R⟩ := I
  unfold wpX_without wpY_without
  dsimp only
  rcases sn_lt R v1 with ⟨j, hj, rfl, hb, hX, hY⟩ | ⟨hX, hY⟩
  · obtain ⟨r, gX, gY⟩ := sn_low R M 0 (L &&& (((1 : Int32) <<< (nI j &&& 31)) ^^^ (-1))) ((1 : Int32) <<< (nI j &&& 31)) (sn_A1 L hj)
    refine hX _ ?_
    refine br_f sn_n1 ?_
    refine gX _ ?_
    refine hY _ ?_
    refine br_t rfl ?_
    refine sn_yMarks T F O P K M R.2.2.2.1 R.2.2.2.2 _ ?_
    refine gY _ ?_
    exact ⟨rfl, sn_rel R⟩
  · refine hX _ ?_
    refine br_t rfl ?_
    refine hY _ ?_
    exact br_f sn_n1 ⟨rfl, sn_rel R⟩
theorem i_vc_including {k : Nat} {u : SX} {v : SY} (I : i_Rel k u v) (hk : k + 5 ≤ 2560) (v1 : Int32) : wpX_including (fun r => wpY_including (fun r' => r' = r ∧ i_Rel (k + 5) u v) v v1) u v1 := by
  obtain ⟨L, M, E, P, T, F, O, K, rfl, rfl, R⟩ := I
  unfold wpX_including wpY_including
  dsimp only
  rcases sn_pt v1 with ⟨j, hj, rfl, hX, hY⟩ | ⟨hX, hY⟩
  · obtain ⟨r, gX, gY⟩ := sn_low R (M ||| ((1 : Int32) <<< (nI j &&& 31))) 0 L 0 (sn_A0 L)
    refine hX _ ?_
    refine br_f sn_n1 ?_
    refine gX _ ?_
    refine hY _ ?_
    refine br_t rfl ?_
    refine sn_yMarks T F O P K M R.2.2.2.1 R.2.2.2.2 _ ?_
    refine gY _ ?_
    exact ⟨rfl, sn_rel R⟩
  · refine hX _ ?_
    refine br_t rfl ?_
    refine hY _ ?_
    exact br_f sn_n1 ⟨rfl, sn_rel R⟩
theorem i_vc_between {k : Nat} {u : SX} {v : SY} (I : i_Rel k u v) (hk : k + 5 ≤ 2560) (v1 : Int32) (v2 : Int32) : wpX_between (fun r => wpY_between (fun r' => r' = r ∧ i_Rel (k + 5) u v) v v1 v2) u v1 v2 := by
  obtain ⟨L, M, E, P, T, F, O, K, rfl, rfl, R⟩ := I
  unfold wpX_between wpY_between
  dsimp only
  rcases sn_pt v1 with ⟨a, ha, rfl, hX, hY⟩ | ⟨hX, hY⟩
  · refine hX _ ?_
    refine br_f sn_n1 ?_
    rcases sn_pt v2 with ⟨b, hb, rfl, hXb, hYb⟩ | ⟨hXb, hYb⟩
    · obtain ⟨r, gX, gY⟩ := sn_low R (((1 : Int32) <<< (nI a &&& 31)) ||| ((1 : Int32) <<< (nI b &&& 31))) 0 L 0 (sn_A0 L)
      refine hXb _ ?_
      refine br_f sn_n1 ?_
      refine gX _ ?_
      refine hY _ ?_
      refine br_t rfl ?_
      refine hYb _ ?_
      refine br_t rfl ?_
      refine gY _ ?_
      exact ⟨rfl, sn_rel R⟩
    · refine hXb _ ?_
      refine br_t rfl ?_
      refine hY _ ?_
      refine br_t rfl ?_
      refine hYb _ ?_
      exact br_f sn_n1 ⟨rfl, sn_rel R⟩
  · refine hX _ ?_
    refine br_t rfl ?_
    refine hY _ ?_
    exact br_f sn_n1 ⟨rfl, sn_rel R⟩
end
