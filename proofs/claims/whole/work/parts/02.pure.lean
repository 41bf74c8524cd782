/-! the pure pictures: a round over the lines, the rounds, the price of a choice -/
/-- one line of one round: the ends of a chosen line that meets what is reached -/
def sn_step (E : Nat → Int32) (c : Int32) (k : Nat) (r : Int32) : Int32 :=
  if bt c k = true then (if (r &&& E k) = 0 then r else r ||| E k) else r
def sn_go (E : Nat → Int32) (c : Int32) : Nat → Nat → Int32 → Int32
  | 0, _, r => r
  | d + 1, k, r => sn_go E c d (k + 1) (sn_step E c k r)
def sn_rounds (E : Nat → Int32) (c : Int32) : Nat → Int32 → Int32
  | 0, r => r
  | d + 1, r => sn_rounds E c d (sn_go E c 10 0 r)
theorem sn_step_n {E : Nat → Int32} {c : Int32} {k : Nat} {r : Int32} (h : bt c k = false) : sn_step E c k r = r := if_neg (by rw [h]; decide)
theorem sn_step_0 {E : Nat → Int32} {c : Int32} {k : Nat} {r : Int32} (h : (r &&& E k) = 0) : sn_step E c k r = r := by
  unfold sn_step
  rw [if_pos h]
  split <;> rfl
theorem sn_step_1 {E : Nat → Int32} {c : Int32} {k : Nat} {r : Int32} (hb : bt c k = true) (h : ¬ (r &&& E k) = 0) : sn_step E c k r = r ||| E k := by
  unfold sn_step
  rw [if_pos hb, if_neg h]
theorem sn_go_eq {E F : Nat → Int32} {c : Int32} : ∀ (d k : Nat) (r : Int32), (∀ j, k ≤ j → j < k + d → bt c j = true → E j = F j) → sn_go E c d k r = sn_go F c d k r := by
  intro d
  induction d with
  | zero =>
    intro k r _
    rfl
  | succ d ih =>
    intro k r h
    have e : sn_step E c k r = sn_step F c k r := by
      unfold sn_step
      by_cases hb : bt c k = true
      · rw [if_pos hb, if_pos hb, h k (Nat.le_refl _) (by omega) hb]
      · rw [if_neg hb, if_neg hb]
    show sn_go E c d (k + 1) (sn_step E c k r) = sn_go F c d (k + 1) (sn_step F c k r)
    rw [e]
    exact ih (k + 1) _ (fun j h1 h2 hb => h j (by omega) (by omega) hb)
theorem sn_rounds_eq {E F : Nat → Int32} {c : Int32} (h : ∀ j, j < 10 → bt c j = true → E j = F j) : ∀ (d : Nat) (r : Int32), sn_rounds E c d r = sn_rounds F c d r := by
  intro d
  induction d with
  | zero =>
    intro r
    rfl
  | succ d ih =>
    intro r
    show sn_rounds E c d (sn_go E c 10 0 r) = sn_rounds F c d (sn_go F c 10 0 r)
    rw [sn_go_eq 10 0 r (fun j _ h2 hb => h j (by omega) hb)]
    exact ih _
/-- the sum of the prices of the chosen lines -/
def sn_sum (P : Nat → Int32) (c : Int32) : Nat → Nat → Int32 → Int32
  | 0, _, s => s
  | d + 1, k, s => sn_sum P c d (k + 1) (if bt c k = true then s + P k else s)
theorem sn_sum_1 {P : Nat → Int32} {c : Int32} {d k : Nat} {s : Int32} (h : bt c k = true) : sn_sum P c (d + 1) k s = sn_sum P c d (k + 1) (s + P k) := by
  show sn_sum P c d (k + 1) (if bt c k = true then s + P k else s) = _
  rw [if_pos h]
theorem sn_sum_0 {P : Nat → Int32} {c : Int32} {d k : Nat} {s : Int32} (h : bt c k = false) : sn_sum P c (d + 1) k s = sn_sum P c d (k + 1) s := by
  show sn_sum P c d (k + 1) (if bt c k = true then s + P k else s) = _
  rw [if_neg (by rw [h]; decide)]
theorem sn_sum_in {P : Nat → Int32} {c : Int32} (h : ∀ k, k < 10 → 0 ≤ (P k).toInt ∧ (P k).toInt ≤ 100) : ∀ (d k : Nat) (s : Int32), k + d ≤ 10 → 0 ≤ s.toInt → s.toInt ≤ 100 * k → 0 ≤ (sn_sum P c d k s).toInt := by
  intro d
  induction d with
  | zero =>
    intro k s _ h0 _
    exact h0
  | succ d ih =>
    intro k s hk h0 h1
    have hp := h k (by omega)
    have e : (s + P k).toInt = s.toInt + (P k).toInt := by
      rw [Int32.toInt_add]
      exact Int.bmod_eq_of_le (by omega) (by omega)
    cases hb : bt c k
    · rw [sn_sum_0 hb]
      exact ih (k + 1) s (by omega) h0 (by omega)
    · rw [sn_sum_1 hb]
      exact ih (k + 1) _ (by omega) (by omega) (by omega)
/-- the reference's price: -1 where a chosen line is not there -/
def sn_pY (T P : Nat → Int32) (c : Int32) : Nat → Nat → Int32 → Int32
  | 0, _, s => s
  | d + 1, k, s => if bt c k = true then (if T k = 0 then -1 else sn_pY T P c d (k + 1) (s + P k)) else sn_pY T P c d (k + 1) s
theorem sn_pY_n {T P : Nat → Int32} {c : Int32} {d k : Nat} {s : Int32} (h : bt c k = false) : sn_pY T P c (d + 1) k s = sn_pY T P c d (k + 1) s := if_neg (by rw [h]; decide)
theorem sn_pY_0 {T P : Nat → Int32} {c : Int32} {d k : Nat} {s : Int32} (h : bt c k = true) (ht : T k = 0) : sn_pY T P c (d + 1) k s = -1 := by
  show (if bt c k = true then (if T k = 0 then -1 else sn_pY T P c d (k + 1) (s + P k)) else sn_pY T P c d (k + 1) s) = -1
  rw [if_pos h, if_pos ht]
theorem sn_pY_1 {T P : Nat → Int32} {c : Int32} {d k : Nat} {s : Int32} (h : bt c k = true) (ht : ¬ T k = 0) : sn_pY T P c (d + 1) k s = sn_pY T P c d (k + 1) (s + P k) := by
  show (if bt c k = true then (if T k = 0 then -1 else sn_pY T P c d (k + 1) (s + P k)) else sn_pY T P c d (k + 1) s) = _
  rw [if_pos h, if_neg ht]
theorem sn_pY_all {T P : Nat → Int32} {c : Int32} : ∀ (d k : Nat) (s : Int32), (∀ j, k ≤ j → j < k + d → bt c j = true → ¬ T j = 0) → sn_pY T P c d k s = sn_sum P c d k s := by
  intro d
  induction d with
  | zero =>
    intro k s _
    rfl
  | succ d ih =>
    intro k s h
    have h' : ∀ j, k + 1 ≤ j → j < k + 1 + d → bt c j = true → ¬ T j = 0 := fun j h1 h2 hb => h j (by omega) (by omega) hb
    cases hb : bt c k
    · rw [sn_sum_0 hb, sn_pY_n hb]
      exact ih (k + 1) s h'
    · rw [sn_sum_1 hb, sn_pY_1 hb (h k (Nat.le_refl _) (by omega) hb)]
      exact ih (k + 1) _ h'
theorem sn_pY_not {T P : Nat → Int32} {c : Int32} : ∀ (d k : Nat) (s : Int32) (j : Nat), k ≤ j → j < k + d → bt c j = true → T j = 0 → sn_pY T P c d k s = -1 := by
  intro d
  induction d with
  | zero =>
    intro k s j h1 h2
    omega
  | succ d ih =>
    intro k s j h1 h2 hb ht
    by_cases e : j = k
    · subst e
      exact sn_pY_0 hb ht
    · cases hk : bt c k
      · rw [sn_pY_n hk]
        exact ih (k + 1) s j (by omega) (by omega) hb ht
      · by_cases h0 : T k = 0
        · exact sn_pY_0 hk h0
        · rw [sn_pY_1 hk h0]
          exact ih (k + 1) _ j (by omega) (by omega) hb ht
