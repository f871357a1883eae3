/-! numbers below zero (sb_negT, sb_nle: rows to paste), iteration, states that are not below 0 -/
theorem sb_negT {w : Nat} (h : w < 2 ^ 31) : (-nI w).toInt = -(w : Int) := by
  rw [Int32.toInt_neg, nI_toInt h]
  exact Int.bmod_eq_of_le (by omega) (by omega)
theorem sb_nle {a b : Nat} (ha : a < 2 ^ 31) (hb : b < 2 ^ 31) : -nI a ≤ -nI b ↔ b ≤ a := by
  rw [Int32.le_iff_toInt_le, sb_negT ha, sb_negT hb]
  omega
theorem jg_neg {x : Int32} (h : x < 0) (h1 : -100000 ≤ x) : ∃ N : Nat, 0 < N ∧ N ≤ 100000 ∧ x = -nI N := by
  rw [Int32.lt_iff_toInt_lt] at h
  rw [Int32.le_iff_toInt_le] at h1
  have h0 : (0 : Int32).toInt = 0 := by decide
  have h2 : (-100000 : Int32).toInt = -100000 := by decide
  rw [h0] at h
  rw [h2] at h1
  refine ⟨(-x.toInt).toNat, by omega, by omega, Int32.toInt_inj.mp ?_⟩
  rw [sb_negT (by omega)]
  omega
theorem jg_nat {x : Int32} (h : ¬ x < 0) (h1 : x ≤ 100000) : ∃ N : Nat, N ≤ 100000 ∧ x = nI N :=
  nI_of2 (M := 100000) (n := 100000) (by decide) h h1
theorem jg_dec (j : Nat) : -nI j + (-1) = -nI (j + 1) := by
  rw [← nI_1, Int32.neg_add, Int32.sub_eq_add_neg]
theorem jg_negneg (x : Int32) : -(-x) = x := Int32.neg_neg
/-- n times f -/
def jg_it (f : Int32 → Int32) : Nat → Int32 → Int32
  | 0, x => x
  | n + 1, x => jg_it f n (f x)
theorem jg_it_ok {f : Int32 → Int32} (hf : ∀ x, ¬ f x < 0) : ∀ (n : Nat) (x : Int32), ¬ x < 0 → ¬ jg_it f n x < 0 := by
  intro n
  induction n with
  | zero => intro x h; exact h
  | succ n ih => intro x _; exact ih (f x) (hf x)
theorem jg_mask (x : Int32) : ¬ (x &&& 65535) < 0 := by
  have h : (x &&& 65535).toBitVec.toNat < 65536 := by
    rw [Int32.toBitVec_and, BitVec.toNat_and]
    exact Nat.lt_of_le_of_lt Nat.and_le_right (by decide)
  have e : (x &&& 65535).toInt = (x &&& 65535).toBitVec.toInt := rfl
  rw [Int32.lt_iff_toInt_lt, e, BitVec.toInt_eq_toNat_of_lt (by omega), show (0 : Int32).toInt = 0 from by decide]
  omega
/-- a mark that is not below 0 is filled exactly if it is above 0 -/
theorem jg_le0 {x : Int32} (h : ¬ x < 0) : x ≤ 0 ↔ x = 0 := by
  rw [Int32.lt_iff_toInt_lt] at h
  rw [Int32.le_iff_toInt_le, ← Int32.toInt_inj]
  have h0 : (0 : Int32).toInt = 0 := by decide
  rw [h0] at h ⊢
  omega
/-- steps from x to t, with at most d more before the end -/
def jg_cnt (f : Int32 → Int32) (t : Int32) : Nat → Nat → Int32 → Int32
  | 0, _, _ => -1
  | d + 1, i, x => if x = t then nI i else jg_cnt f t d (i + 1) (f x)
/-- steps from x until its bits under m are 0 -/
def jg_rnd (f : Int32 → Int32) (m : Int32) : Nat → Nat → Int32 → Int32
  | 0, _, _ => -1
  | d + 1, i, x => if x &&& m = 0 then nI i else jg_rnd f m d (i + 1) (f x)
/-- the exclusive or of d states on -/
def jg_mix (f : Int32 → Int32) : Nat → Int32 → Int32 → Int32
  | 0, s, _ => s
  | d + 1, s, x => jg_mix f d (s ^^^ x) (f x)
theorem jg_c1 : nI 65535 = 65535 := by decide +kernel
theorem jg_c2 : nI 100000 = 100000 := by decide +kernel
theorem jg_n0 : -nI 0 = (0 : Int32) := by decide +kernel
theorem jg_10 : ¬ (1 : Int32) = 0 := by decide
theorem jg_np {N : Nat} (hN : N < 2 ^ 31) : -nI N ≤ 0 := by
  rw [Int32.le_iff_toInt_le, sb_negT hN, show (0 : Int32).toInt = 0 from by decide]
  omega
theorem jg_78 {p : Int32} : 8 ≤ p ↔ 7 < p := by
  rw [Int32.le_iff_toInt_le, Int32.lt_iff_toInt_lt, show (8 : Int32).toInt = 8 from by decide, show (7 : Int32).toInt = 7 from by decide]
  omega
theorem jg_in8 {p : Int32} (h0 : ¬ p < 0) (h8 : ¬ 8 ≤ p) : vp_in p 8 := by
  rw [Int32.lt_iff_toInt_lt, show (0 : Int32).toInt = 0 from by decide] at h0
  rw [Int32.le_iff_toInt_le, show (8 : Int32).toInt = 8 from by decide] at h8
  rw [vp_in_iff]
  omega
theorem jg_pos {p : Int32} (h : ¬ p < 1) : ¬ p < 0 := by
  rw [Int32.lt_iff_toInt_lt, show (1 : Int32).toInt = 1 from by decide] at h
  rw [Int32.lt_iff_toInt_lt, show (0 : Int32).toInt = 0 from by decide]
  omega
theorem jg_big {p : Int32} (h : 100000 < p) : ¬ p ≤ 0 := by
  rw [Int32.lt_iff_toInt_lt, show (100000 : Int32).toInt = 100000 from by decide] at h
  rw [Int32.le_iff_toInt_le, show (0 : Int32).toInt = 0 from by decide]
  omega
theorem jg_upd {a : Nat → Int32} {c : Int32} (k : Nat) (hc : ¬ c < 0) (ha : ∀ j, ¬ a j < 0) : ∀ j, ¬ upd a k c j < 0 := by
  intro j
  unfold upd
  split
  · exact hc
  · exact ha j
