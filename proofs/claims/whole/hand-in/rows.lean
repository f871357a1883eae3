section
/-! numbers below zero (sb_negT, sb_nle: rows to paste), iteration, states that are not below 0 -/
theorem sb_negT {w : Nat} (h : w < 2 ^ 31) : (-nI w).toInt = -(w : Int) := by
  rw [Int32.toInt_neg, nI_toInt h]
  exact Int.bmod_eq_of_le (by omega) (by omega)
theorem sb_nle {a b : Nat} (ha : a < 2 ^ 31) (hb : b < 2 ^ 31) : -nI a ≤ -nI b ↔ b ≤ a := by
  rw [Int32.le_iff_toInt_le, sb_negT ha, sb_negT hb]
  omega
theorem jg_neg {x : Int32} (h : x < 0) (h1 : -100000 ≤ x) : ∃ N : Nat, 0 < N ∧ N ≤ 100000 ∧ x = -nI N := by
  rw [Int32.lt_iff_toInt_lt] at h
  rw [Int32.le_iff_toInt_le] at h1
  have h0 : (0 : Int32).toInt = 0 := by decide
  have h2 : (-100000 : Int32).toInt = -100000 := by decide
  rw [h0] at h
  rw [h2] at h1
  refine ⟨(-x.toInt).toNat, by omega, by omega, Int32.toInt_inj.mp ?_⟩
  rw [sb_negT (by omega)]
  omega
theorem jg_nat {x : Int32} (h : ¬ x < 0) (h1 : x ≤ 100000) : ∃ N : Nat, N ≤ 100000 ∧ x = nI N :=
  nI_of2 (M := 100000) (n := 100000) (by decide) h h1
theorem jg_dec (j : Nat) : -nI j + (-1) = -nI (j + 1) := by
  rw [← nI_1, Int32.neg_add, Int32.sub_eq_add_neg]
theorem jg_negneg (x : Int32) : -(-x) = x := Int32.neg_neg
/-- n times f -/
def jg_it (f : Int32 → Int32) : Nat → Int32 → Int32
  | 0, x => x
  | n + 1, x => jg_it f n (f x)
theorem jg_it_ok {f : Int32 → Int32} (hf : ∀ x, ¬ f x < 0) : ∀ (n : Nat) (x : Int32), ¬ x < 0 → ¬ jg_it f n x < 0 := by
  intro n
  induction n with
  | zero => intro x h; exact h
  | succ n ih => intro x _; exact ih (f x) (hf x)
theorem jg_mask (x : Int32) : ¬ (x &&& 65535) < 0 := by
  have h : (x &&& 65535).toBitVec.toNat < 65536 := by
    rw [Int32.toBitVec_and, BitVec.toNat_and]
    exact Nat.lt_of_le_of_lt Nat.and_le_right (by decide)
  have e : (x &&& 65535).toInt = (x &&& 65535).toBitVec.toInt := rfl
  rw [Int32.lt_iff_toInt_lt, e, BitVec.toInt_eq_toNat_of_lt (by omega), show (0 : Int32).toInt = 0 from by decide]
  omega
/-- a mark that is not below 0 is filled exactly if it is above 0 -/
theorem jg_le0 {x : Int32} (h : ¬ x < 0) : x ≤ 0 ↔ x = 0 := by
  rw [Int32.lt_iff_toInt_lt] at h
  rw [Int32.le_iff_toInt_le, ← Int32.toInt_inj]
  have h0 : (0 : Int32).toInt = 0 := by decide
  rw [h0] at h ⊢
  omega
/-- steps from x to t, with at most d more before the end -/
def jg_cnt (f : Int32 → Int32) (t : Int32) : Nat → Nat → Int32 → Int32
  | 0, _, _ => -1
  | d + 1, i, x => if x = t then nI i else jg_cnt f t d (i + 1) (f x)
/-- steps from x until its bits under m are 0 -/
def jg_rnd (f : Int32 → Int32) (m : Int32) : Nat → Nat → Int32 → Int32
  | 0, _, _ => -1
  | d + 1, i, x => if x &&& m = 0 then nI i else jg_rnd f m d (i + 1) (f x)
/-- the exclusive or of d states on -/
def jg_mix (f : Int32 → Int32) : Nat → Int32 → Int32 → Int32
  | 0, s, _ => s
  | d + 1, s, x => jg_mix f d (s ^^^ x) (f x)
theorem jg_c1 : nI 65535 = 65535 := by decide +kernel
theorem jg_c2 : nI 100000 = 100000 := by decide +kernel
theorem jg_n0 : -nI 0 = (0 : Int32) := by decide +kernel
theorem jg_10 : ¬ (1 : Int32) = 0 := by decide
theorem jg_np {N : Nat} (hN : N < 2 ^ 31) : -nI N ≤ 0 := by
  rw [Int32.le_iff_toInt_le, sb_negT hN, show (0 : Int32).toInt = 0 from by decide]
  omega
theorem jg_78 {p : Int32} : 8 ≤ p ↔ 7 < p := by
  rw [Int32.le_iff_toInt_le, Int32.lt_iff_toInt_lt, show (8 : Int32).toInt = 8 from by decide, show (7 : Int32).toInt = 7 from by decide]
  omega
theorem jg_in8 {p : Int32} (h0 : ¬ p < 0) (h8 : ¬ 8 ≤ p) : vp_in p 8 := by
  rw [Int32.lt_iff_toInt_lt, show (0 : Int32).toInt = 0 from by decide] at h0
  rw [Int32.le_iff_toInt_le, show (8 : Int32).toInt = 8 from by decide] at h8
  rw [vp_in_iff]
  omega
theorem jg_pos {p : Int32} (h : ¬ p < 1) : ¬ p < 0 := by
  rw [Int32.lt_iff_toInt_lt, show (1 : Int32).toInt = 1 from by decide] at h
  rw [Int32.lt_iff_toInt_lt, show (0 : Int32).toInt = 0 from by decide]
  omega
theorem jg_big {p : Int32} (h : 100000 < p) : ¬ p ≤ 0 := by
  rw [Int32.lt_iff_toInt_lt, show (100000 : Int32).toInt = 100000 from by decide] at h
  rw [Int32.le_iff_toInt_le, show (0 : Int32).toInt = 0 from by decide]
  omega
theorem jg_upd {a : Nat → Int32} {c : Int32} (k : Nat) (hc : ¬ c < 0) (ha : ∀ j, ¬ a j < 0) : ∀ j, ¬ upd a k c j < 0 := by
  intro j
  unfold upd
  split
  · exact hc
  · exact ha j
end
section
/-! a step each way, and every loop of both sides against one pure function -/
def jg_s1 (x : Int32) : Int32 := (x ^^^ (x <<< ((7 : Int32) &&& 31))) &&& 65535
def jg_s2 (y : Int32) : Int32 := y ^^^ (y >>> ((9 : Int32) &&& 31))
def jg_st (x : Int32) : Int32 := (jg_s2 (jg_s1 x) ^^^ (jg_s2 (jg_s1 x) <<< ((8 : Int32) &&& 31))) &&& 65535
def jg_b1 (x : Int32) : Int32 := (x ^^^ (x <<< ((8 : Int32) &&& 31))) &&& 65535
def jg_bk (x : Int32) : Int32 := ((jg_s2 (jg_b1 x) ^^^ (jg_s2 (jg_b1 x) <<< ((7 : Int32) &&& 31))) ^^^ (jg_s2 (jg_b1 x) <<< ((14 : Int32) &&& 31))) &&& 65535
theorem jg_st_ok (x : Int32) : ¬ jg_st x < 0 := jg_mask _
theorem jg_bk_ok (x : Int32) : ¬ jg_bk x < 0 := jg_mask _
theorem jg_xst {post : Int32 → Prop} {x : Int32} (h : post (jg_st x)) : wpX_stepForwards post x := by
  intro y ey z ez
  subst ey
  subst ez
  exact h
theorem jg_xbk {post : Int32 → Prop} {x : Int32} (h : post (jg_bk x)) : wpX_stepBackwards post x := by
  intro y ey z ez
  subst ey
  subst ez
  exact h
theorem jg_yst {post : Int32 → Prop} {c : Int32} {a : Nat → Int32} {x : Int32} (h : post (jg_st x)) : wpY_step post (c, a) x := by
  intro y ey z ez
  subst ey
  subst ez
  exact h
theorem jg_ybk {post : Int32 → Prop} {c : Int32} {a : Nat → Int32} {x : Int32} (h : post (jg_bk x)) : wpY_stepBack post (c, a) x := by
  intro y ey z ez
  subst ey
  subst ez
  exact h
theorem jg_xfwL {post : Int32 → Prop} {N : Nat} (hN : N < 2 ^ 31) : ∀ (d i : Nat) (x : Int32), i + d = N → post (jg_it jg_st d x) → wX_goForwards_4 post (nI N) (d + 1) x (nI i) := by
  intro d
  induction d with
  | zero => intro i x hi h; exact br_t (nI_le (by omega) (by omega)) h
  | succ d ih => intro i x hi h; exact br_f (nI_ge (by omega) hN) (jg_xst (nm_r (nI_1 i) (ih (i + 1) (jg_st x) (by omega) h)))
theorem jg_xbwL {post : Int32 → Prop} {N : Nat} (hN : N < 2 ^ 31) : ∀ (d i : Nat) (x : Int32), i + d = N → post (jg_it jg_bk d x) → wX_goBackwards_4 post (nI N) (d + 1) x (nI i) := by
  intro d
  induction d with
  | zero => intro i x hi h; exact br_t (nI_le (by omega) (by omega)) h
  | succ d ih => intro i x hi h; exact br_f (nI_ge (by omega) hN) (jg_xbk (nm_r (nI_1 i) (ih (i + 1) (jg_bk x) (by omega) h)))
theorem jg_xfw {post : Int32 → Prop} {N : Nat} {x : Int32} (hN : N < 2 ^ 31) (h : post (jg_it jg_st N x)) : wpX_goForwards post x (nI N) := ⟨N + 1, jg_xfwL hN N 0 x (by omega) h⟩
theorem jg_xbw {post : Int32 → Prop} {N : Nat} {x : Int32} (hN : N < 2 ^ 31) (h : post (jg_it jg_bk N x)) : wpX_goBackwards post x (nI N) := ⟨N + 1, jg_xbwL hN N 0 x (by omega) h⟩
theorem jg_yfwL {post : Int32 → Prop} {c : Int32} {a : Nat → Int32} {N : Nat} (hN : N < 2 ^ 31) : ∀ (d i : Nat) (x : Int32), i + d = N → post (jg_it jg_st d x) → wY_go_5 post (nI N) c a (d + 1) x (nI i) := by
  intro d
  induction d with
  | zero => intro i x hi h; exact br_t (nI_le (by omega) (by omega)) ⟨1, br_t (nI_pos' hN) h⟩
  | succ d ih => intro i x hi h; exact br_f (nI_ge (by omega) hN) (jg_yst (nm_r (nI_1 i) (ih (i + 1) (jg_st x) (by omega) h)))
theorem jg_ybwL {post : Int32 → Prop} {c : Int32} {a : Nat → Int32} {N : Nat} (hN : N < 2 ^ 31) : ∀ (d i : Nat) (x : Int32), i + d = N → post (jg_it jg_bk d x) → wY_go_26 post (-nI N) c a (d + 1) x (-nI i) := by
  intro d
  induction d with
  | zero => intro i x hi h; exact br_t ((sb_nle (by omega) hN).mpr (by omega)) h
  | succ d ih =>
    intro i x hi h
    have hn : ¬ -nI i ≤ -nI N := fun z => absurd ((sb_nle (by omega) hN).mp z) (by omega)
    exact br_f hn (jg_ybk (nm_r (jg_dec i) (ih (i + 1) (jg_bk x) (by omega) h)))
theorem jg_yfw {post : Int32 → Prop} {c : Int32} {a : Nat → Int32} {N : Nat} {x : Int32} (hN : N < 2 ^ 31) (h : post (jg_it jg_st N x)) : wpY_go post (c, a) x (nI N) := ⟨N + 1, jg_yfwL hN N 0 x (by omega) h⟩
theorem jg_ybw {post : Int32 → Prop} {c : Int32} {a : Nat → Int32} {N : Nat} {x : Int32} (hN : N < 2 ^ 31) (h : post (jg_it jg_bk N x)) : wpY_go post (c, a) x (-nI N) := by
  have w : wY_go_26 post (-nI N) c a (N + 1) x (-nI 0) := jg_ybwL hN N 0 x (by omega) h
  rw [jg_n0] at w
  exact ⟨1, br_t (jg_np hN) ⟨N + 1, w⟩⟩
/-- goFrom and go lead from x to one answer -/
theorem jg_go {p : Int32} (h1 : ¬ p < -100000) (h2 : ¬ 100000 < p) (x : Int32) : ∃ r : Int32, (¬ x < 0 → ¬ r < 0) ∧ (∀ post : Int32 → Prop, post r → wpX_goFrom post x p) ∧ (∀ (post : Int32 → Prop) (c : Int32) (a : Nat → Int32), post r → wpY_go post (c, a) x p) := by
  by_cases h0 : p < 0
  · obtain ⟨N, hN0, hN, rfl⟩ := jg_neg h0 (Int32.not_lt.mp h1)
    refine ⟨jg_it jg_bk N x, jg_it_ok jg_bk_ok N x, fun post h => ?_, fun post c a h => jg_ybw (by omega) h⟩
    refine br_f (Int32.not_le.mpr h0) ?_
    rw [jg_negneg]
    exact jg_xbw (by omega) h
  · obtain ⟨N, hN, rfl⟩ := jg_nat h0 (Int32.not_lt.mp h2)
    exact ⟨jg_it jg_st N x, jg_it_ok jg_st_ok N x, fun post h => br_t (Int32.not_lt.mp h0) (jg_xfw (by omega) h), fun post c a h => jg_yfw (by omega) h⟩
theorem jg_xcsL {post : Int32 → Prop} {t : Int32} : ∀ (d i : Nat) (x : Int32), i + d = 65535 → post (jg_cnt jg_st t d i x) → wX_countSteps_4 post t (d + 1) x (nI i) := by
  intro d
  induction d with
  | zero =>
    intro i x hi h
    have hb : (65535 : Int32) ≤ nI i := by rw [← jg_c1]; exact nI_le (by omega) (by omega)
    exact br_t hb h
  | succ d ih =>
    intro i x hi h
    have hb : ¬ (65535 : Int32) ≤ nI i := by rw [← jg_c1]; exact nI_ge (by omega) (by omega)
    rw [jg_cnt] at h
    by_cases z : x = t
    · rw [if_pos z] at h
      exact br_f hb (br_t z h)
    · rw [if_neg z] at h
      exact br_f hb (br_f z (jg_xst (nm_r (nI_1 i) (ih (i + 1) (jg_st x) (by omega) h))))
theorem jg_ycsL {post : Int32 → Prop} {c : Int32} {a : Nat → Int32} {t : Int32} : ∀ (d i : Nat) (x : Int32), i + d = 65535 → post (jg_cnt jg_st t d i x) → wY_steps_5 post t c a (d + 1) x (nI i) := by
  intro d
  induction d with
  | zero =>
    intro i x hi h
    have hb : (65535 : Int32) ≤ nI i := by rw [← jg_c1]; exact nI_le (by omega) (by omega)
    exact br_t hb h
  | succ d ih =>
    intro i x hi h
    have hb : ¬ (65535 : Int32) ≤ nI i := by rw [← jg_c1]; exact nI_ge (by omega) (by omega)
    rw [jg_cnt] at h
    by_cases z : x = t
    · rw [if_pos z] at h
      exact br_f hb (br_t z h)
    · rw [if_neg z] at h
      exact br_f hb (br_f z (jg_yst (nm_r (nI_1 i) (ih (i + 1) (jg_st x) (by omega) h))))
/-- countSteps and steps have one answer -/
theorem jg_cs (x t : Int32) : ∃ r : Int32, (∀ post : Int32 → Prop, post r → wpX_countSteps post x t) ∧ (∀ (post : Int32 → Prop) (c : Int32) (a : Nat → Int32), post r → wpY_steps post (c, a) x t) := by
  generalize hd : 65535 = d
  have h0 : 0 + d = 65535 := by omega
  exact ⟨jg_cnt jg_st t d 0 x, fun post h => ⟨d + 1, jg_xcsL d 0 x h0 h⟩, fun post c a h => ⟨d + 1, jg_ycsL d 0 x h0 h⟩⟩
theorem jg_xmxL {post : Int32 → Prop} {c : Int32} {a : Nat → Int32} {N : Nat} (hN : N < 2 ^ 31) : ∀ (d i : Nat) (s x : Int32), i + d = N → post (jg_mix jg_st d s x) → wX_mixed_19 post (nI N) c a (d + 1) s x (nI i) := by
  intro d
  induction d with
  | zero => intro i s x hi h; exact br_t (nI_le (by omega) (by omega)) h
  | succ d ih => intro i s x hi h; exact br_f (nI_ge (by omega) hN) (nm_e (jg_xst (nm_r (nI_1 i) (ih (i + 1) (s ^^^ x) (jg_st x) (by omega) h))))
theorem jg_ymxL {post : Int32 → Prop} {c : Int32} {a : Nat → Int32} {N : Nat} (hN : N < 2 ^ 31) (h1 : ¬ nI N < 0) (h2 : ¬ 100000 < nI N) : ∀ (d i : Nat) (s x : Int32), i + d = N → post (jg_mix jg_st d s x) → wY_mixed_10 post (nI N) c a (d + 1) x s (nI i) := by
  intro d
  induction d with
  | zero => intro i s x hi h; exact br_t (nI_le (by omega) (by omega)) (br_f h1 (br_t (Int32.not_lt.mp h2) h))
  | succ d ih => intro i s x hi h; exact br_f (nI_ge (by omega) hN) (br_f h2 (nm_e (jg_yst (nm_r (nI_1 i) (ih (i + 1) (s ^^^ x) (jg_st x) (by omega) h)))))
theorem jg_xnrL {post : Int32 → Prop} {c m : Int32} {a : Nat → Int32} : ∀ (d i : Nat) (x : Int32), i + d = 100001 → post (jg_rnd jg_st m d i x) → wX_nextRound_26 post m c a (d + 1) x (nI i) := by
  intro d
  induction d with
  | zero =>
    intro i x hi h
    have hb : (100000 : Int32) < nI i := by rw [← jg_c2]; exact nI_lt (by omega) (by omega)
    exact br_t hb h
  | succ d ih =>
    intro i x hi h
    have hb : ¬ (100000 : Int32) < nI i := by rw [← jg_c2]; exact nI_nlt (by omega) (by omega)
    rw [jg_rnd] at h
    by_cases z : x &&& m = 0
    · rw [if_pos z] at h
      exact br_f hb (br_t z h)
    · rw [if_neg z] at h
      exact br_f hb (br_f z (jg_xst (nm_r (nI_1 i) (ih (i + 1) (jg_st x) (by omega) h))))
theorem jg_ynrL {post : Int32 → Prop} {c p : Int32} {a : Nat → Int32} (h0 : ¬ p < 0) (h8 : ¬ 8 < p) : ∀ (d i : Nat) (x : Int32), i + d = 100001 → post (jg_rnd jg_st (((1 : Int32) <<< (p &&& 31)) - 1) d i x) → wY_nextRound_7 post p c a (d + 1) x (nI i) := by
  intro d
  induction d with
  | zero =>
    intro i x hi h
    have hb : (100000 : Int32) < nI i := by rw [← jg_c2]; exact nI_lt (by omega) (by omega)
    exact br_t hb h
  | succ d ih =>
    intro i x hi h
    have hb : ¬ (100000 : Int32) < nI i := by rw [← jg_c2]; exact nI_nlt (by omega) (by omega)
    rw [jg_rnd] at h
    by_cases z : x &&& (((1 : Int32) <<< (p &&& 31)) - 1) = 0
    · rw [if_pos z] at h
      exact br_f hb (br_f h0 (br_f h8 (br_t z h)))
    · rw [if_neg z] at h
      exact br_f hb (br_f h0 (br_f h8 (br_f z (jg_yst (nm_r (nI_1 i) (ih (i + 1) (jg_st x) (by omega) h))))))
end
section
/-! what both sides ask of an argument -/
theorem jg_state (p : Int32) : ((∀ post : Int32 → Prop, post 0 → wpX_isState post p) ∧ (∀ (post : Int32 → Prop) (c : Int32) (a : Nat → Int32), post 0 → wpY_isState post (c, a) p)) ∨ (¬ p < 0 ∧ (∀ post : Int32 → Prop, post 1 → wpX_isState post p) ∧ (∀ (post : Int32 → Prop) (c : Int32) (a : Nat → Int32), post 1 → wpY_isState post (c, a) p)) := by
  by_cases h1 : p < 1
  · exact Or.inl ⟨fun _ h => br_t h1 h, fun _ _ _ h => br_t h1 h⟩
  · by_cases h2 : 65535 < p
    · exact Or.inl ⟨fun _ h => br_f h1 (br_t h2 h), fun _ _ _ h => br_f h1 (br_t h2 h)⟩
    · exact Or.inr ⟨jg_pos h1, fun _ h => br_f h1 (br_f h2 h), fun _ _ _ h => br_f h1 (br_f h2 h)⟩
theorem jg_jump (p : Int32) : ((∀ post : Int32 → Prop, post 0 → wpX_isJump post p) ∧ (∀ (post : Int32 → Prop) (c : Int32) (a : Nat → Int32), post 0 → wpY_near post (c, a) p)) ∨ (¬ p < -100000 ∧ ¬ 100000 < p ∧ (∀ post : Int32 → Prop, post 1 → wpX_isJump post p) ∧ (∀ (post : Int32 → Prop) (c : Int32) (a : Nat → Int32), post 1 → wpY_near post (c, a) p)) := by
  by_cases h1 : p < -100000
  · exact Or.inl ⟨fun _ h => br_t h1 h, fun _ _ _ h => br_t h1 h⟩
  · by_cases h2 : 100000 < p
    · exact Or.inl ⟨fun _ h => br_f h1 (br_t h2 h), fun _ _ _ h => br_f h1 (br_t h2 h)⟩
    · exact Or.inr ⟨h1, h2, fun _ h => br_f h1 (br_f h2 h), fun _ _ _ h => br_f h1 (br_f h2 h)⟩
/-- isFilledMark and holds, of marks that are not below 0 -/
theorem jg_fill {a : Nat → Int32} (ha : ∀ j, ¬ a j < 0) (c p : Int32) : ((∀ post : Int32 → Prop, post 0 → wpX_isFilledMark post (c, a) p) ∧ (∀ post : Int32 → Prop, post 0 → wpY_holds post (c, a) p)) ∨ (vp_in p 8 ∧ (∀ post : Int32 → Prop, post 1 → wpX_isFilledMark post (c, a) p) ∧ (∀ post : Int32 → Prop, post 1 → wpY_holds post (c, a) p)) := by
  by_cases h0 : p < 0
  · exact Or.inl ⟨fun _ h => br_t h0 (br_t rfl h), fun _ h => br_t h0 h⟩
  · by_cases h8 : 8 ≤ p
    · exact Or.inl ⟨fun _ h => br_f h0 (br_t h8 (br_t rfl h)), fun _ h => br_f h0 (br_t (jg_78.mp h8) h)⟩
    · have h7 : ¬ 7 < p := fun z => h8 (jg_78.mpr z)
      have hi := jg_in8 h0 h8
      by_cases z : a p.toNatClampNeg = 0
      · have y : a p.toNatClampNeg ≤ 0 := (jg_le0 (ha _)).mpr z
        exact Or.inl ⟨fun _ h => br_f h0 (br_f h8 (br_f jg_10 ⟨hi, br_t z h⟩)), fun _ h => br_f h0 (br_f h7 ⟨hi, br_t y h⟩)⟩
      · have y : ¬ a p.toNatClampNeg ≤ 0 := fun w => z ((jg_le0 (ha _)).mp w)
        exact Or.inr ⟨hi, fun _ h => br_f h0 (br_f h8 (br_f jg_10 ⟨hi, br_f z h⟩)), fun _ h => br_f h0 (br_f h7 ⟨hi, br_f y h⟩)⟩
theorem jg_xc0 {post : Int32 → Prop} {p : Int32} (h0 : p < 0) (h : post 0) : wpX_isCount post p := br_t h0 h
theorem jg_xc2 {post : Int32 → Prop} {p : Int32} (h0 : ¬ p < 0) (h2 : 100000 < p) (h : post 0) : wpX_isCount post p := br_f h0 (br_t h2 h)
theorem jg_xc1 {post : Int32 → Prop} {p : Int32} (h0 : ¬ p < 0) (h2 : ¬ 100000 < p) (h : post 1) : wpX_isCount post p := br_f h0 (br_f h2 h)
end
section
/-- both hold the same current state and the same marks, none of them below 0 -/
def i_Rel (k : Nat) (u : SX) (v : SY) : Prop := ∃ (c : Int32) (a : Nat → Int32), u = (c, a) ∧ v = (c, a) ∧ ¬ c < 0 ∧ ∀ j, ¬ a j < 0
theorem jg_rel {k : Nat} {c : Int32} {a : Nat → Int32} (hc : ¬ c < 0) (ha : ∀ j, ¬ a j < 0) : i_Rel k (c, a) (c, a) := ⟨c, a, rfl, rfl, hc, ha⟩
theorem i_up {k : Nat} {u : SX} {v : SY} (h : i_Rel k u v) : i_Rel (k + 4) u v := h
theorem i_vc0 : wpX_init (fun u => wpY_init (fun v => i_Rel 0 u v)) := by
  unfold wpX_init wpY_init
  exact jg_rel (by decide) (fun _ => by decide)
theorem i_vc_seed {k : Nat} {u : SX} {v : SY} (I : i_Rel k u v) (hk : k + 4 ≤ 2048) (v1 : Int32) : wpX_seed (fun r u' => wpY_seed (fun r' v' => r' = r ∧ i_Rel (k + 4) u' v') v v1) u v1 := by
  obtain ⟨c, a, rfl, rfl, hc, ha⟩ := I
  unfold wpX_seed wpY_seed
  dsimp only
  rcases jg_state v1 with ⟨hX, hY⟩ | ⟨h0, hX, hY⟩
  · exact hX _ (br_t rfl (hY _ c a (br_t rfl ⟨rfl, jg_rel hc ha⟩)))
  · exact hX _ (br_f jg_10 (hY _ c a (br_f jg_10 ⟨rfl, jg_rel h0 ha⟩)))
theorem i_vc_state {k : Nat} {u : SX} {v : SY} (I : i_Rel k u v) (hk : k + 4 ≤ 2048) : wpX_state (fun r => wpY_state (fun r' => r' = r ∧ i_Rel (k + 4) u v) v) u := by
  obtain ⟨c, a, rfl, rfl, hc, ha⟩ := I
  unfold wpX_state wpY_state
  exact ⟨rfl, jg_rel hc ha⟩
theorem i_vc_next {k : Nat} {u : SX} {v : SY} (I : i_Rel k u v) (hk : k + 4 ≤ 2048) : wpX_next (fun r u' => wpY_next (fun r' v' => r' = r ∧ i_Rel (k + 4) u' v') v) u := by
  obtain ⟨c, a, rfl, rfl, hc, ha⟩ := I
  unfold wpX_next wpY_next
  dsimp only
  exact jg_xst (jg_yst ⟨rfl, jg_rel (jg_st_ok c) ha⟩)
theorem i_vc_jump {k : Nat} {u : SX} {v : SY} (I : i_Rel k u v) (hk : k + 4 ≤ 2048) (v1 : Int32) : wpX_jump (fun r u' => wpY_jump (fun r' v' => r' = r ∧ i_Rel (k + 4) u' v') v v1) u v1 := by
  obtain ⟨c, a, rfl, rfl, hc, ha⟩ := I
  unfold wpX_jump wpY_jump
  dsimp only
  rcases jg_jump v1 with ⟨hX, hY⟩ | ⟨h1, h2, hX, hY⟩
  · exact hX _ (br_t rfl (hY _ c a (br_t rfl ⟨rfl, jg_rel hc ha⟩)))
  · obtain ⟨r, hr, gX, gY⟩ := jg_go h1 h2 c
    exact hX _ (br_f jg_10 (gX _ (hY _ c a (br_f jg_10 (gY _ c a ⟨rfl, jg_rel (hr hc) ha⟩)))))
theorem i_vc_peek {k : Nat} {u : SX} {v : SY} (I : i_Rel k u v) (hk : k + 4 ≤ 2048) (v1 : Int32) : wpX_peek (fun r => wpY_peek (fun r' => r' = r ∧ i_Rel (k + 4) u v) v v1) u v1 := by
  obtain ⟨c, a, rfl, rfl, hc, ha⟩ := I
  unfold wpX_peek wpY_peek
  dsimp only
  rcases jg_jump v1 with ⟨hX, hY⟩ | ⟨h1, h2, hX, hY⟩
  · exact hX _ (br_t rfl (hY _ c a (br_t rfl ⟨rfl, jg_rel hc ha⟩)))
  · obtain ⟨r, hr, gX, gY⟩ := jg_go h1 h2 c
    exact hX _ (br_f jg_10 (gX _ (hY _ c a (br_f jg_10 (gY _ c a ⟨rfl, jg_rel hc ha⟩)))))
theorem i_vc_mark {k : Nat} {u : SX} {v : SY} (I : i_Rel k u v) (hk : k + 4 ≤ 2048) (v1 : Int32) : wpX_mark (fun r u' => wpY_mark (fun r' v' => r' = r ∧ i_Rel (k + 4) u' v') v v1) u v1 := by
  obtain ⟨c, a, rfl, rfl, hc, ha⟩ := I
  unfold wpX_mark wpY_mark wpX_isMark
  dsimp only
  by_cases h0 : v1 < 0
  · exact br_t h0 (br_t rfl (br_t h0 ⟨rfl, jg_rel hc ha⟩))
  · by_cases h8 : 8 ≤ v1
    · have h7 : ¬ v1 ≤ 7 := Int32.not_le.mpr (jg_78.mp h8)
      exact br_f h0 (br_t h8 (br_t rfl (br_f h0 (br_f h7 ⟨rfl, jg_rel hc ha⟩))))
    · have h7 : v1 ≤ 7 := Int32.not_lt.mp (fun z => h8 (jg_78.mpr z))
      have hi := jg_in8 h0 h8
      exact br_f h0 (br_f h8 (br_f jg_10 ⟨hi, nm_e (br_f h0 (br_t h7 ⟨hi, nm_e ⟨rfl, jg_rel hc (jg_upd _ hc ha)⟩⟩))⟩))
theorem i_vc_back {k : Nat} {u : SX} {v : SY} (I : i_Rel k u v) (hk : k + 4 ≤ 2048) (v1 : Int32) : wpX_back (fun r u' => wpY_back (fun r' v' => r' = r ∧ i_Rel (k + 4) u' v') v v1) u v1 := by
  obtain ⟨c, a, rfl, rfl, hc, ha⟩ := I
  unfold wpX_back wpY_back
  dsimp only
  rcases jg_fill ha c v1 with ⟨hX, hY⟩ | ⟨hi, hX, hY⟩
  · exact hX _ (br_t rfl (hY _ (br_t rfl ⟨rfl, jg_rel hc ha⟩)))
  · exact hX _ (br_f jg_10 ⟨hi, nm_e (hY _ (br_f jg_10 ⟨hi, nm_e ⟨rfl, jg_rel (ha _) ha⟩⟩))⟩)
theorem i_vc_distance {k : Nat} {u : SX} {v : SY} (I : i_Rel k u v) (hk : k + 4 ≤ 2048) (v1 : Int32) : wpX_distance (fun r => wpY_distance (fun r' => r' = r ∧ i_Rel (k + 4) u v) v v1) u v1 := by
  obtain ⟨c, a, rfl, rfl, hc, ha⟩ := I
  unfold wpX_distance wpY_distance
  dsimp only
  rcases jg_state v1 with ⟨hX, hY⟩ | ⟨h0, hX, hY⟩
  · exact hX _ (br_t rfl (hY _ c a (br_t rfl ⟨rfl, jg_rel hc ha⟩)))
  · obtain ⟨r, gX, gY⟩ := jg_cs c v1
    exact hX _ (br_f jg_10 (gX _ (hY _ c a (br_f jg_10 (gY _ c a ⟨rfl, jg_rel hc ha⟩)))))
theorem i_vc_between {k : Nat} {u : SX} {v : SY} (I : i_Rel k u v) (hk : k + 4 ≤ 2048) (v1 : Int32) (v2 : Int32) : wpX_between (fun r => wpY_between (fun r' => r' = r ∧ i_Rel (k + 4) u v) v v1 v2) u v1 v2 := by
  obtain ⟨c, a, rfl, rfl, hc, ha⟩ := I
  unfold wpX_between wpY_between
  dsimp only
  rcases jg_fill ha c v1 with ⟨hX, hY⟩ | ⟨hi, hX, hY⟩
  · exact hX _ (br_t rfl (hY _ (br_t rfl ⟨rfl, jg_rel hc ha⟩)))
  · rcases jg_fill ha c v2 with ⟨kX, kY⟩ | ⟨ki, kX, kY⟩
    · exact hX _ (br_f jg_10 (kX _ (br_t rfl (hY _ (br_f jg_10 (kY _ (br_t rfl ⟨rfl, jg_rel hc ha⟩)))))))
    · obtain ⟨r, gX, gY⟩ := jg_cs (a v1.toNatClampNeg) (a v2.toNatClampNeg)
      exact hX _ (br_f jg_10 (kX _ (br_f jg_10 ⟨hi, ki, gX _ (hY _ (br_f jg_10 (kY _ (br_f jg_10 ⟨hi, ki, gY _ c a ⟨rfl, jg_rel hc ha⟩⟩))))⟩)))
theorem i_vc_mixed {k : Nat} {u : SX} {v : SY} (I : i_Rel k u v) (hk : k + 4 ≤ 2048) (v1 : Int32) : wpX_mixed (fun r => wpY_mixed (fun r' => r' = r ∧ i_Rel (k + 4) u v) v v1) u v1 := by
  obtain ⟨c, a, rfl, rfl, hc, ha⟩ := I
  unfold wpX_mixed wpY_mixed
  dsimp only
  by_cases h0 : v1 < 0
  · exact jg_xc0 h0 (br_t rfl ⟨1, br_t (Int32.le_of_lt h0) (br_t h0 ⟨rfl, jg_rel hc ha⟩)⟩)
  · by_cases h2 : 100000 < v1
    · exact jg_xc2 h0 h2 (br_t rfl ⟨1, br_f (jg_big h2) (br_t h2 (br_f h0 (br_f (Int32.not_le.mpr h2) ⟨rfl, jg_rel hc ha⟩)))⟩)
    · refine jg_xc1 h0 h2 (br_f jg_10 ?_)
      obtain ⟨N, hN, rfl⟩ := jg_nat h0 (Int32.not_lt.mp h2)
      exact ⟨N + 1, jg_xmxL (by omega) N 0 0 c (by omega) ⟨N + 1, jg_ymxL (by omega) h0 h2 N 0 0 c (by omega) ⟨rfl, jg_rel hc ha⟩⟩⟩
theorem i_vc_period {k : Nat} {u : SX} {v : SY} (I : i_Rel k u v) (hk : k + 4 ≤ 2048) : wpX_period (fun r => wpY_period (fun r' => r' = r ∧ i_Rel (k + 4) u v) v) u := by
  obtain ⟨c, a, rfl, rfl, hc, ha⟩ := I
  unfold wpX_period wpY_period
  dsimp only
  obtain ⟨r, gX, gY⟩ := jg_cs (jg_st c) c
  exact jg_xst (gX _ (jg_yst (gY _ c a ⟨Int32.add_comm _ _, jg_rel hc ha⟩)))
theorem i_vc_before {k : Nat} {u : SX} {v : SY} (I : i_Rel k u v) (hk : k + 4 ≤ 2048) (v1 : Int32) (v2 : Int32) : wpX_before (fun r => wpY_before (fun r' => r' = r ∧ i_Rel (k + 4) u v) v v1 v2) u v1 v2 := by
  obtain ⟨c, a, rfl, rfl, hc, ha⟩ := I
  unfold wpX_before wpY_before
  dsimp only
  have J : i_Rel (k + 4) (c, a) (c, a) := jg_rel hc ha
  rcases jg_state v1 with ⟨hX, hY⟩ | ⟨_, hX, hY⟩
  · exact hX _ (br_t rfl (hY _ c a (br_t rfl ⟨rfl, J⟩)))
  · by_cases h0 : v2 < 0
    · exact hX _ (br_f jg_10 (jg_xc0 h0 (br_t rfl (hY _ c a (br_f jg_10 (br_t h0 ⟨rfl, J⟩))))))
    · by_cases h2 : 100000 < v2
      · exact hX _ (br_f jg_10 (jg_xc2 h0 h2 (br_t rfl (hY _ c a (br_f jg_10 (br_f h0 (br_t h2 ⟨rfl, J⟩)))))))
      · obtain ⟨N, hN, rfl⟩ := jg_nat h0 (Int32.not_lt.mp h2)
        exact hX _ (br_f jg_10 (jg_xc1 h0 h2 (br_f jg_10 (jg_xbw (by omega) (hY _ c a (br_f jg_10 (br_f h0 (br_f h2 (jg_ybw (by omega) ⟨rfl, J⟩)))))))))
theorem i_vc_apart {k : Nat} {u : SX} {v : SY} (I : i_Rel k u v) (hk : k + 4 ≤ 2048) (v1 : Int32) (v2 : Int32) (v3 : Int32) : wpX_apart (fun r => wpY_apart (fun r' => r' = r ∧ i_Rel (k + 4) u v) v v1 v2 v3) u v1 v2 v3 := by
  obtain ⟨c, a, rfl, rfl, hc, ha⟩ := I
  unfold wpX_apart wpY_apart
  dsimp only
  have J : i_Rel (k + 4) (c, a) (c, a) := jg_rel hc ha
  rcases jg_state v1 with ⟨hX, hY⟩ | ⟨_, hX, hY⟩
  · exact hX _ (br_t rfl (hY _ c a (br_t rfl ⟨rfl, J⟩)))
  · rcases jg_state v2 with ⟨kX, kY⟩ | ⟨_, kX, kY⟩
    · exact hX _ (br_f jg_10 (kX _ (br_t rfl (hY _ c a (br_f jg_10 (kY _ c a (br_t rfl ⟨rfl, J⟩)))))))
    · by_cases h0 : v3 < 0
      · exact hX _ (br_f jg_10 (kX _ (br_f jg_10 (jg_xc0 h0 (br_t rfl (hY _ c a (br_f jg_10 (kY _ c a (br_f jg_10 (br_t h0 ⟨rfl, J⟩))))))))))
      · by_cases h2 : 100000 < v3
        · exact hX _ (br_f jg_10 (kX _ (br_f jg_10 (jg_xc2 h0 h2 (br_t rfl (hY _ c a (br_f jg_10 (kY _ c a (br_f jg_10 (br_f h0 (br_t h2 ⟨rfl, J⟩)))))))))))
        · obtain ⟨N, hN, rfl⟩ := jg_nat h0 (Int32.not_lt.mp h2)
          exact hX _ (br_f jg_10 (kX _ (br_f jg_10 (jg_xc1 h0 h2 (br_f jg_10 (jg_xfw (by omega) (jg_xfw (by omega) (hY _ c a (br_f jg_10 (kY _ c a (br_f jg_10 (br_f h0 (br_f h2 (jg_yfw (by omega) (jg_yfw (by omega) ⟨rfl, J⟩)))))))))))))))
theorem i_vc_nextRound {k : Nat} {u : SX} {v : SY} (I : i_Rel k u v) (hk : k + 4 ≤ 2048) (v1 : Int32) : wpX_nextRound (fun r => wpY_nextRound (fun r' => r' = r ∧ i_Rel (k + 4) u v) v v1) u v1 := by
  obtain ⟨c, a, rfl, rfl, hc, ha⟩ := I
  unfold wpX_nextRound wpY_nextRound
  dsimp only
  have J : i_Rel (k + 4) (c, a) (c, a) := jg_rel hc ha
  have hz : ¬ (100000 : Int32) < 0 := by decide
  by_cases h0 : v1 < 0
  · exact br_t h0 ⟨1, br_f hz (br_t h0 ⟨rfl, J⟩)⟩
  · by_cases h8 : v1 ≤ 8
    · have h9 : ¬ 8 < v1 := Int32.not_lt.mpr h8
      generalize hd : 100001 = d
      have e0 : 0 + d = 100001 := by omega
      exact br_f h0 (br_t h8 (nm_e ⟨d + 1, jg_xnrL d 0 c e0 ⟨d + 1, jg_ynrL h0 h9 d 0 c e0 ⟨rfl, J⟩⟩⟩))
    · exact br_f h0 (br_f h8 ⟨1, br_f hz (br_f h0 (br_t (Int32.not_le.mp h8) ⟨rfl, J⟩))⟩)
end
