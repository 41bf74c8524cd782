/-! bits and stores: rows pasted from the kit, then our own on single bits -/
def bt (x : Int32) (i : Nat) : Bool := x.toBitVec.getLsbD i
theorem b_ext {x y : Int32} (h : ∀ i, i < 32 → bt x i = bt y i) : x = y := Int32.toBitVec_inj.mp (BitVec.eq_of_getLsbD_eq (fun i hi => h i hi))
theorem b_or (x y : Int32) (i : Nat) : bt (x ||| y) i = (bt x i || bt y i) := by unfold bt; rw [Int32.toBitVec_or, BitVec.getLsbD_or]
theorem b_and (x y : Int32) (i : Nat) : bt (x &&& y) i = (bt x i && bt y i) := by unfold bt; rw [Int32.toBitVec_and, BitVec.getLsbD_and]
theorem b_xor (x y : Int32) (i : Nat) : bt (x ^^^ y) i = (bt x i ^^ bt y i) := by unfold bt; rw [Int32.toBitVec_xor, BitVec.getLsbD_xor]
theorem b_big {x : Int32} {i : Nat} (h : 32 ≤ i) : bt x i = false := BitVec.getLsbD_of_ge _ _ h
theorem b_m1 : ∀ i, i < 32 → bt (-1) i = true := by decide +kernel
theorem b_0 (i : Nat) : bt 0 i = false := BitVec.getLsbD_zero
theorem s_l : ∀ n, n < 32 → ((nI n &&& 31).toBitVec.smod 32).toNat = n := by decide +kernel
theorem b_shl (n : Nat) (hn : n < 32) (x : Int32) {i : Nat} (hi : i < 32) : bt (x <<< (nI n &&& 31)) i = (decide (n ≤ i) && bt x (i - n)) := by
  unfold bt
  rw [Int32.toBitVec_shiftLeft]
  show (x.toBitVec <<< ((nI n &&& 31).toBitVec.smod 32).toNat).getLsbD i = _
  rw [s_l n hn, BitVec.getLsbD_shiftLeft]
  rcases Nat.lt_or_ge i n with h | h
  · simp [h, Nat.not_le.mpr h]
  · simp [hi, h, Nat.not_lt.mpr h]
theorem b_sshr (n : Nat) (hn : n < 32) (x : Int32) {i : Nat} (hi : i < 32) : bt (x >>> (nI n &&& 31)) i = if n + i < 32 then bt x (n + i) else bt x 31 := by
  unfold bt
  rw [Int32.toBitVec_shiftRight]
  show (x.toBitVec.sshiftRight ((nI n &&& 31).toBitVec.smod 32).toNat).getLsbD i = _
  rw [s_l n hn, BitVec.getLsbD_sshiftRight, BitVec.msb_eq_getLsbD_last]
  simp [hi]
theorem pk_us {f : Nat → Int32} {k : Nat} {x : Int32} : upd f k x k = x := if_pos rfl
theorem pk_un {f : Nat → Int32} {k j : Nat} {x : Int32} (h : j ≠ k) : upd f k x j = f j := if_neg h
theorem pk_ix (x : Int32) {n : Nat} (hn : n < 2 ^ 31) : x < 0 ∨ nI n ≤ x ∨ ∃ j : Nat, j < n ∧ x = nI j := by
  by_cases h : x < 0
  · exact Or.inl h
  · obtain ⟨j, hj, rfl⟩ := nI_of h
    by_cases h2 : j < n
    · exact Or.inr (Or.inr ⟨j, h2, rfl⟩)
    · exact Or.inr (Or.inl (nI_le (by omega) hj))
theorem pk_le {x y : Int32} {A B : Prop} (a b : Nat) (f : a ≤ b → A) (g : b < a → B) (hx : x = nI a := by rfl) (hy : y = nI b := by rfl) (ha : a < 2 ^ 31 := by omega) (hb : b < 2 ^ 31 := by omega) : (x ≤ y → A) ∧ (¬ x ≤ y → B) := by
  subst hx hy
  rw [nI_leI ha hb]
  exact ⟨f, fun z => g (by omega)⟩
theorem pk_lt {x y : Int32} {A B : Prop} (a b : Nat) (f : a < b → A) (g : b ≤ a → B) (hx : x = nI a := by rfl) (hy : y = nI b := by rfl) (ha : a < 2 ^ 31 := by omega) (hb : b < 2 ^ 31 := by omega) : (x < y → A) ∧ (¬ x < y → B) := by
  subst hx hy
  rw [nI_ltI ha hb]
  exact ⟨f, fun z => g (by omega)⟩
theorem pk_eq {x y : Int32} {A B : Prop} (a b : Nat) (f : a = b → A) (g : a ≠ b → B) (hx : x = nI a := by rfl) (hy : y = nI b := by rfl) (ha : a < 2 ^ 31 := by omega) (hb : b < 2 ^ 31 := by omega) : (x = y → A) ∧ (¬ x = y → B) := by
  subst hx hy
  rw [nI_eq ha hb]
  exact ⟨f, g⟩
theorem pk_in {x : Int32} (n N : Nat) (h : n < N) (hx : x = nI n := by rfl) (hN : N < 2 ^ 31 := by omega) : vp_in x N := by
  subst hx
  exact vp_in_nI h hN
theorem pk_cl {x : Int32} (n : Nat) (hx : x = nI n := by rfl) (h : n < 2 ^ 31 := by omega) : x.toNatClampNeg = n := by
  subst hx
  exact nI_clamp h
theorem sn_b1 (i : Nat) : bt 1 i = decide (i = 0) := by
  rcases Nat.lt_or_ge i 32 with h | h
  · exact (by decide +kernel : ∀ i, i < 32 → bt 1 i = decide (i = 0)) i h
  · rw [b_big h, decide_eq_false (by omega)]
/-- a truth as the machine holds it -/
def sn_v (b : Bool) : Int32 := if b = true then 1 else 0
theorem sn_vt {b : Bool} (h : b = true) : sn_v b = 1 := if_pos h
theorem sn_vf {b : Bool} (h : b = false) : sn_v b = 0 := if_neg (by rw [h]; decide)
theorem sn_v1 {b : Bool} : sn_v b = 1 ↔ b = true := by cases b <;> decide
theorem sn_v0 {b : Bool} : sn_v b = 0 ↔ b = false := by cases b <;> decide
theorem sn_bv (b : Bool) (i : Nat) : bt (sn_v b) i = (b && decide (i = 0)) := by
  cases b
  · rw [sn_vf rfl, b_0, Bool.false_and]
  · rw [sn_vt rfl, sn_b1, Bool.true_and]
/-- (x >> k) & 1 is the bit k of x -/
theorem sn_bit (x : Int32) (k : Nat) (hk : k < 32) : ((x >>> (nI k &&& 31)) &&& 1) = sn_v (bt x k) := by
  apply b_ext
  intro i hi
  rw [b_and, b_sshr k hk x hi, sn_b1, sn_bv]
  by_cases h : i = 0
  · subst h
    rw [Nat.add_zero, if_pos hk]
  · rw [decide_eq_false h, Bool.and_false, Bool.and_false]
/-- 1 << k has the bit k alone -/
theorem sn_one (k : Nat) (hk : k < 32) {i : Nat} (hi : i < 32) : bt ((1 : Int32) <<< (nI k &&& 31)) i = decide (i = k) := by
  rw [b_shl k hk 1 hi, sn_b1]
  by_cases h : i = k
  · subst h
    simp
  · by_cases h2 : k ≤ i
    · have h3 : ¬ i - k = 0 := by omega
      rw [decide_eq_false h, decide_eq_false h3, Bool.and_false]
    · rw [decide_eq_false h2, Bool.false_and, decide_eq_false h]
theorem sn_not (x : Int32) {i : Nat} (hi : i < 32) : bt (x ^^^ (-1)) i = !bt x i := by
  rw [b_xor, b_m1 i hi, Bool.xor_true]
theorem sn_set (x : Int32) (k : Nat) (hk : k < 32) {i : Nat} (hi : i < 32) : bt (x ||| ((1 : Int32) <<< (nI k &&& 31))) i = (bt x i || decide (i = k)) := by
  rw [b_or, sn_one k hk hi]
theorem sn_clr (x : Int32) (k : Nat) (hk : k < 32) {i : Nat} (hi : i < 32) : bt (x &&& (((1 : Int32) <<< (nI k &&& 31)) ^^^ (-1))) i = (bt x i && !decide (i = k)) := by
  rw [b_and, sn_not _ hi, sn_one k hk hi]
theorem sn_zero (x : Int32) : x = 0 ↔ ∀ i, i < 32 → bt x i = false :=
  ⟨fun h i _ => by rw [h]; exact b_0 i, fun h => b_ext (fun i hi => by rw [h i hi, b_0])⟩
theorem sn_nI (c i : Nat) : bt (nI c) i = (decide (i < 32) && c.testBit i) := by
  show (BitVec.ofNat 32 c).getLsbD i = _
  rw [BitVec.getLsbD_ofNat]
theorem sn_hi {c i : Nat} (hc : c < 1024) (hi : 10 ≤ i) : bt (nI c) i = false := by
  have h : 2 ^ 10 ≤ 2 ^ i := Nat.pow_le_pow_right (by decide) hi
  rw [sn_nI, Nat.testBit_lt_two_pow (by omega), Bool.and_false]
theorem sn_lo {c i : Nat} (hc : c < 1024) (hb : bt (nI c) i = true) : i < 10 := by
  rcases Nat.lt_or_ge i 10 with h | h
  · exact h
  · rw [sn_hi hc h] at hb
    cases hb
/-- (p & ~r) == 0 asks what (r & p) == p asks -/
theorem sn_sub (p r : Int32) : (p &&& (r ^^^ (-1))) = 0 ↔ (r &&& p) = p := by
  constructor
  · intro h
    apply b_ext
    intro i hi
    have h2 := (sn_zero _).mp h i hi
    rw [b_and, sn_not r hi] at h2
    rw [b_and]
    revert h2
    cases bt p i <;> cases bt r i <;> simp
  · intro h
    apply (sn_zero _).mpr
    intro i hi
    have h2 : bt (r &&& p) i = bt p i := by rw [h]
    rw [b_and] at h2
    rw [b_and, sn_not r hi]
    revert h2
    cases bt p i <;> cases bt r i <;> simp
/-- the choice c has allowed lines alone: it has none that are out, and all its lines are there -/
theorem sn_cond {A L O : Int32} {c : Nat} (hc : c < 1024) (hA : ∀ k, k < 10 → bt A k = (bt L k && !bt O k)) :
    (nI c &&& (A ^^^ (-1))) = 0 ↔ ((nI c &&& O) = 0 ∧ ∀ k, k < 10 → bt (nI c) k = true → bt L k = true) := by
  rw [sn_zero, sn_zero]
  constructor
  · intro h
    have key : ∀ k, k < 10 → bt (nI c) k = true → bt L k = true ∧ bt O k = false := by
      intro k hk hb
      have h2 := h k (by omega)
      rw [b_and, sn_not A (by omega), hA k hk, hb] at h2
      revert h2
      cases bt L k <;> cases bt O k <;> simp
    refine ⟨fun i hi => ?_, fun k hk hb => (key k hk hb).1⟩
    rw [b_and]
    cases hb : bt (nI c) i
    · rfl
    · rw [(key i (sn_lo hc hb) hb).2]
      rfl
  · intro ⟨h1, h2⟩ i hi
    rw [b_and, sn_not A hi]
    cases hb : bt (nI c) i
    · rfl
    · have h3 := h1 i hi
      rw [b_and, hb] at h3
      rw [hA i (sn_lo hc hb), h2 i (sn_lo hc hb) hb]
      revert h3
      cases bt O i <;> simp
