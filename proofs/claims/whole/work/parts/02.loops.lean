/-! a step each way, and every loop of both sides against one pure function -/
def jg_s1 (x : Int32) : Int32 := (x ^^^ (x <<< ((7 : Int32) &&& 31))) &&& 65535
def jg_s2 (y : Int32) : Int32 := y ^^^ (y >>> ((9 : Int32) &&& 31))
def jg_st (x : Int32) : Int32 := (jg_s2 (jg_s1 x) ^^^ (jg_s2 (jg_s1 x) <<< ((8 : Int32) &&& 31))) &&& 65535
def jg_b1 (x : Int32) : Int32 := (x ^^^ (x <<< ((8 : Int32) &&& 31))) &&& 65535
def jg_bk (x : Int32) : Int32 := ((jg_s2 (jg_b1 x) ^^^ (jg_s2 (jg_b1 x) <<< ((7 : Int32) &&& 31))) ^^^ (jg_s2 (jg_b1 x) <<< ((14 : Int32) &&& 31))) &&& 65535
theorem jg_st_ok (x : Int32) : ¬ jg_st x < 0 := jg_mask _
theorem jg_bk_ok (x : Int32) : ¬ jg_bk x < 0 := jg_mask _
theorem jg_xst {post : Int32 → Prop} {x : Int32} (h : post (jg_st x)) : wpX_stepForwards post x := by
  intro y ey z ez
  subst ey
  subst ez
  exact h
theorem jg_xbk {post : Int32 → Prop} {x : Int32} (h : post (jg_bk x)) : wpX_stepBackwards post x := by
  intro y ey z ez
  subst ey
  subst ez
  exact h
theorem jg_yst {post : Int32 → Prop} {c : Int32} {a : Nat → Int32} {x : Int32} (h : post (jg_st x)) : wpY_step post (c, a) x := by
  intro y ey z ez
  subst ey
  subst ez
  exact h
theorem jg_ybk {post : Int32 → Prop} {c : Int32} {a : Nat → Int32} {x : Int32} (h : post (jg_bk x)) : wpY_stepBack post (c, a) x := by
  intro y ey z ez
  subst ey
  subst ez
  exact h
theorem jg_xfwL {post : Int32 → Prop} {N : Nat} (hN : N < 2 ^ 31) : ∀ (d i : Nat) (x : Int32), i + d = N → post (jg_it jg_st d x) → wX_goForwards_4 post (nI N) (d + 1) x (nI i) := by
  intro d
  induction d with
  | zero => intro i x hi h; exact br_t (nI_le (by omega) (by omega)) h
  | succ d ih => intro i x hi h; exact br_f (nI_ge (by omega) hN) (jg_xst (nm_r (nI_1 i) (ih (i + 1) (jg_st x) (by omega) h)))
theorem jg_xbwL {post : Int32 → Prop} {N : Nat} (hN : N < 2 ^ 31) : ∀ (d i : Nat) (x : Int32), i + d = N → post (jg_it jg_bk d x) → wX_goBackwards_4 post (nI N) (d + 1) x (nI i) := by
  intro d
  induction d with
  | zero => intro i x hi h; exact br_t (nI_le (by omega) (by omega)) h
  | succ d ih => intro i x hi h; exact br_f (nI_ge (by omega) hN) (jg_xbk (nm_r (nI_1 i) (ih (i + 1) (jg_bk x) (by omega) h)))
theorem jg_xfw {post : Int32 → Prop} {N : Nat} {x : Int32} (hN : N < 2 ^ 31) (h : post (jg_it jg_st N x)) : wpX_goForwards post x (nI N) := ⟨N + 1, jg_xfwL hN N 0 x (by omega) h⟩
theorem jg_xbw {post : Int32 → Prop} {N : Nat} {x : Int32} (hN : N < 2 ^ 31) (h : post (jg_it jg_bk N x)) : wpX_goBackwards post x (nI N) := ⟨N + 1, jg_xbwL hN N 0 x (by omega) h⟩
theorem jg_yfwL {post : Int32 → Prop} {c : Int32} {a : Nat → Int32} {N : Nat} (hN : N < 2 ^ 31) : ∀ (d i : Nat) (x : Int32), i + d = N → post (jg_it jg_st d x) → wY_go_5 post (nI N) c a (d + 1) x (nI i) := by
  intro d
  induction d with
  | zero => intro i x hi h; exact br_t (nI_le (by omega) (by omega)) ⟨1, br_t (nI_pos' hN) h⟩
  | succ d ih => intro i x hi h; exact br_f (nI_ge (by omega) hN) (jg_yst (nm_r (nI_1 i) (ih (i + 1) (jg_st x) (by omega) h)))
theorem jg_ybwL {post : Int32 → Prop} {c : Int32} {a : Nat → Int32} {N : Nat} (hN : N < 2 ^ 31) : ∀ (d i : Nat) (x : Int32), i + d = N → post (jg_it jg_bk d x) → wY_go_26 post (-nI N) c a (d + 1) x (-nI i) := by
  intro d
  induction d with
  | zero => intro i x hi h; exact br_t ((sb_nle (by omega) hN).mpr (by omega)) h
  | succ d ih =>
    intro i x hi h
    have hn : ¬ -nI i ≤ -nI N := fun z => absurd ((sb_nle (by omega) hN).mp z) (by omega)
    exact br_f hn (jg_ybk (nm_r (jg_dec i) (ih (i + 1) (jg_bk x) (by omega) h)))
theorem jg_yfw {post : Int32 → Prop} {c : Int32} {a : Nat → Int32} {N : Nat} {x : Int32} (hN : N < 2 ^ 31) (h : post (jg_it jg_st N x)) : wpY_go post (c, a) x (nI N) := ⟨N + 1, jg_yfwL hN N 0 x (by omega) h⟩
theorem jg_ybw {post : Int32 → Prop} {c : Int32} {a : Nat → Int32} {N : Nat} {x : Int32} (hN : N < 2 ^ 31) (h : post (jg_it jg_bk N x)) : wpY_go post (c, a) x (-nI N) := by
  have w : wY_go_26 post (-nI N) c a (N + 1) x (-nI 0) := jg_ybwL hN N 0 x (by omega) h
  rw [jg_n0] at w
  exact ⟨1, br_t (jg_np hN) ⟨N + 1, w⟩⟩
/-- goFrom and go lead from x to one answer -/
theorem jg_go {p : Int32} (h1 : ¬ p < -100000) (h2 : ¬ 100000 < p) (x : Int32) : ∃ r : Int32, (¬ x < 0 → ¬ r < 0) ∧ (∀ post : Int32 → Prop, post r → wpX_goFrom post x p) ∧ (∀ (post : Int32 → Prop) (c : Int32) (a : Nat → Int32), post r → wpY_go post (c, a) x p) := by
  by_cases h0 : p < 0
  · obtain ⟨N, hN0, hN, rfl⟩ := jg_neg h0 (Int32.not_lt.mp h1)
    refine ⟨jg_it jg_bk N x, jg_it_ok jg_bk_ok N x, fun post h => ?_, fun post c a h => jg_ybw (by omega) h⟩
    refine br_f (Int32.not_le.mpr h0) ?_
    rw [jg_negneg]
    exact jg_xbw (by omega) h
  · obtain ⟨N, hN, rfl⟩ := jg_nat h0 (Int32.not_lt.mp h2)
    exact ⟨jg_it jg_st N x, jg_it_ok jg_st_ok N x, fun post h => br_t (Int32.not_lt.mp h0) (jg_xfw (by omega) h), fun post c a h => jg_yfw (by omega) h⟩
theorem jg_xcsL {post : Int32 → Prop} {t : Int32} : ∀ (d i : Nat) (x : Int32), i + d = 65535 → post (jg_cnt jg_st t d i x) → wX_countSteps_4 post t (d + 1) x (nI i) := by
  intro d
  induction d with
  | zero =>
    intro i x hi h
    have hb : (65535 : Int32) ≤ nI i := by rw [← jg_c1]; exact nI_le (by omega) (by omega)
    exact br_t hb h
  | succ d ih =>
    intro i x hi h
    have hb : ¬ (65535 : Int32) ≤ nI i := by rw [← jg_c1]; exact nI_ge (by omega) (by omega)
    rw [jg_cnt] at h
    by_cases z : x = t
    · rw [if_pos z] at h
      exact br_f hb (br_t z h)
    · rw [if_neg z] at h
      exact br_f hb (br_f z (jg_xst (nm_r (nI_1 i) (ih (i + 1) (jg_st x) (by omega) h))))
theorem jg_ycsL {post : Int32 → Prop} {c : Int32} {a : Nat → Int32} {t : Int32} : ∀ (d i : Nat) (x : Int32), i + d = 65535 → post (jg_cnt jg_st t d i x) → wY_steps_5 post t c a (d + 1) x (nI i) := by
  intro d
  induction d with
  | zero =>
    intro i x hi h
    have hb : (65535 : Int32) ≤ nI i := by rw [← jg_c1]; exact nI_le (by omega) (by omega)
    exact br_t hb h
  | succ d ih =>
    intro i x hi h
    have hb : ¬ (65535 : Int32) ≤ nI i := by rw [← jg_c1]; exact nI_ge (by omega) (by omega)
    rw [jg_cnt] at h
    by_cases z : x = t
    · rw [if_pos z] at h
      exact br_f hb (br_t z h)
    · rw [if_neg z] at h
      exact br_f hb (br_f z (jg_yst (nm_r (nI_1 i) (ih (i + 1) (jg_st x) (by omega) h))))
/-- countSteps and steps have one answer -/
theorem jg_cs (x t : Int32) : ∃ r : Int32, (∀ post : Int32 → Prop, post r → wpX_countSteps post x t) ∧ (∀ (post : Int32 → Prop) (c : Int32) (a : Nat → Int32), post r → wpY_steps post (c, a) x t) := by
  generalize hd : 65535 = d
  have h0 : 0 + d = 65535 := by omega
  exact ⟨jg_cnt jg_st t d 0 x, fun post h => ⟨d + 1, jg_xcsL d 0 x h0 h⟩, fun post c a h => ⟨d + 1, jg_ycsL d 0 x h0 h⟩⟩
theorem jg_xmxL {post : Int32 → Prop} {c : Int32} {a : Nat → Int32} {N : Nat} (hN : N < 2 ^ 31) : ∀ (d i : Nat) (s x : Int32), i + d = N → post (jg_mix jg_st d s x) → wX_mixed_19 post (nI N) c a (d + 1) s x (nI i) := by
  intro d
  induction d with
  | zero => intro i s x hi h; exact br_t (nI_le (by omega) (by omega)) h
  | succ d ih => intro i s x hi h; exact br_f (nI_ge (by omega) hN) (nm_e (jg_xst (nm_r (nI_1 i) (ih (i + 1) (s ^^^ x) (jg_st x) (by omega) h))))
theorem jg_ymxL {post : Int32 → Prop} {c : Int32} {a : Nat → Int32} {N : Nat} (hN : N < 2 ^ 31) (h1 : ¬ nI N < 0) (h2 : ¬ 100000 < nI N) : ∀ (d i : Nat) (s x : Int32), i + d = N → post (jg_mix jg_st d s x) → wY_mixed_10 post (nI N) c a (d + 1) x s (nI i) := by
  intro d
  induction d with
  | zero => intro i s x hi h; exact br_t (nI_le (by omega) (by omega)) (br_f h1 (br_t (Int32.not_lt.mp h2) h))
  | succ d ih => intro i s x hi h; exact br_f (nI_ge (by omega) hN) (br_f h2 (nm_e (jg_yst (nm_r (nI_1 i) (ih (i + 1) (s ^^^ x) (jg_st x) (by omega) h)))))
theorem jg_xnrL {post : Int32 → Prop} {c m : Int32} {a : Nat → Int32} : ∀ (d i : Nat) (x : Int32), i + d = 100001 → post (jg_rnd jg_st m d i x) → wX_nextRound_26 post m c a (d + 1) x (nI i) := by
  intro d
  induction d with
  | zero =>
    intro i x hi h
    have hb : (100000 : Int32) < nI i := by rw [← jg_c2]; exact nI_lt (by omega) (by omega)
    exact br_t hb h
  | succ d ih =>
    intro i x hi h
    have hb : ¬ (100000 : Int32) < nI i := by rw [← jg_c2]; exact nI_nlt (by omega) (by omega)
    rw [jg_rnd] at h
    by_cases z : x &&& m = 0
    · rw [if_pos z] at h
      exact br_f hb (br_t z h)
    · rw [if_neg z] at h
      exact br_f hb (br_f z (jg_xst (nm_r (nI_1 i) (ih (i + 1) (jg_st x) (by omega) h))))
theorem jg_ynrL {post : Int32 → Prop} {c p : Int32} {a : Nat → Int32} (h0 : ¬ p < 0) (h8 : ¬ 8 < p) : ∀ (d i : Nat) (x : Int32), i + d = 100001 → post (jg_rnd jg_st (((1 : Int32) <<< (p &&& 31)) - 1) d i x) → wY_nextRound_7 post p c a (d + 1) x (nI i) := by
  intro d
  induction d with
  | zero =>
    intro i x hi h
    have hb : (100000 : Int32) < nI i := by rw [← jg_c2]; exact nI_lt (by omega) (by omega)
    exact br_t hb h
  | succ d ih =>
    intro i x hi h
    have hb : ¬ (100000 : Int32) < nI i := by rw [← jg_c2]; exact nI_nlt (by omega) (by omega)
    rw [jg_rnd] at h
    by_cases z : x &&& (((1 : Int32) <<< (p &&& 31)) - 1) = 0
    · rw [if_pos z] at h
      exact br_f hb (br_f h0 (br_f h8 (br_t z h)))
    · rw [if_neg z] at h
      exact br_f hb (br_f h0 (br_f h8 (br_f z (jg_yst (nm_r (nI_1 i) (ih (i + 1) (jg_st x) (by omega) h))))))
