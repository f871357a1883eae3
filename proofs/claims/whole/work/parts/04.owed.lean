/-- both hold the same current state and the same marks, none of them below 0 -/
def i_Rel (k : Nat) (u : SX) (v : SY) : Prop := ∃ (c : Int32) (a : Nat → Int32), u = (c, a) ∧ v = (c, a) ∧ ¬ c < 0 ∧ ∀ j, ¬ a j < 0
theorem jg_rel {k : Nat} {c : Int32} {a : Nat → Int32} (hc : ¬ c < 0) (ha : ∀ j, ¬ a j < 0) : i_Rel k (c, a) (c, a) := ⟨c, a, rfl, rfl, hc, ha⟩
theorem i_up {k : Nat} {u : SX} {v : SY} (h : i_Rel k u v) : i_Rel (k + 4) u v := h
theorem i_vc0 : wpX_init (fun u => wpY_init (fun v => i_Rel 0 u v)) := by
  unfold wpX_init wpY_init
  exact jg_rel (by decide) (fun _ => by decide)
theorem i_vc_seed {k : Nat} {u : SX} {v : SY} (I : i_Rel k u v) (hk : k + 4 ≤ 2048) (v1 : Int32) : wpX_seed (fun r u' => wpY_seed (fun r' v' => r' = r ∧ i_Rel (k + 4) u' v') v v1) u v1 := by
  obtain ⟨c, a, rfl, rfl, hc, ha⟩ := I
  unfold wpX_seed wpY_seed
  dsimp only
  rcases jg_state v1 with ⟨hX, hY⟩ | ⟨h0, hX, hY⟩
  · exact hX _ (br_t rfl (hY _ c a (br_t rfl ⟨rfl, jg_rel hc ha⟩)))
  · exact hX _ (br_f jg_10 (hY _ c a (br_f jg_10 ⟨rfl, jg_rel h0 ha⟩)))
theorem i_vc_state {k : Nat} {u : SX} {v : SY} (I : i_Rel k u v) (hk : k + 4 ≤ 2048) : wpX_state (fun r => wpY_state (fun r' => r' = r ∧ i_Rel (k + 4) u v) v) u := by
  obtain ⟨c, a, rfl, rfl, hc, ha⟩ := I
  unfold wpX_state wpY_state
  exact ⟨rfl, jg_rel hc ha⟩
theorem i_vc_next {k : Nat} {u : SX} {v : SY} (I : i_Rel k u v) (hk : k + 4 ≤ 2048) : wpX_next (fun r u' => wpY_next (fun r' v' => r' = r ∧ i_Rel (k + 4) u' v') v) u := by
  obtain ⟨c, a, rfl, rfl, hc, ha⟩ := I
  unfold wpX_next wpY_next
  dsimp only
  exact jg_xst (jg_yst ⟨rfl, jg_rel (jg_st_ok c) ha⟩)
theorem i_vc_jump {k : Nat} {u : SX} {v : SY} (I : i_Rel k u v) (hk : k + 4 ≤ 2048) (v1 : Int32) : wpX_jump (fun r u' => wpY_jump (fun r' v' => r' = r ∧ i_Rel (k + 4) u' v') v v1) u v1 := by
  obtain ⟨c, a, rfl, rfl, hc, ha⟩ := I
  unfold wpX_jump wpY_jump
  dsimp only
  rcases jg_jump v1 with ⟨hX, hY⟩ | ⟨h1, h2, hX, hY⟩
  · exact hX _ (br_t rfl (hY _ c a (br_t rfl ⟨rfl, jg_rel hc ha⟩)))
  · obtain ⟨r, hr, gX, gY⟩ := jg_go h1 h2 c
    exact hX _ (br_f jg_10 (gX _ (hY _ c a (br_f jg_10 (gY _ c a ⟨rfl, jg_rel (hr hc) ha⟩)))))
theorem i_vc_peek {k : Nat} {u : SX} {v : SY} (I : i_Rel k u v) (hk : k + 4 ≤ 2048) (v1 : Int32) : wpX_peek (fun r => wpY_peek (fun r' => r' = r ∧ i_Rel (k + 4) u v) v v1) u v1 := by
  obtain ⟨c, a, rfl, rfl, hc, ha⟩ := I
  unfold wpX_peek wpY_peek
  dsimp only
  rcases jg_jump v1 with ⟨hX, hY⟩ | ⟨h1, h2, hX, hY⟩
  · exact hX _ (br_t rfl (hY _ c a (br_t rfl ⟨rfl, jg_rel hc ha⟩)))
  · obtain ⟨r, hr, gX, gY⟩ := jg_go h1 h2 c
    exact hX _ (br_f jg_10 (gX _ (hY _ c a (br_f jg_10 (gY _ c a ⟨rfl, jg_rel hc ha⟩)))))
theorem i_vc_mark {k : Nat} {u : SX} {v : SY} (I : i_Rel k u v) (hk : k + 4 ≤ 2048) (v1 : Int32) : wpX_mark (fun r u' => wpY_mark (fun r' v' => r' = r ∧ i_Rel (k + 4) u' v') v v1) u v1 := by
  obtain ⟨c, a, rfl, rfl, hc, ha⟩ := I
  unfold wpX_mark wpY_mark wpX_isMark
  dsimp only
  by_cases h0 : v1 < 0
  · exact br_t h0 (br_t rfl (br_t h0 ⟨rfl, jg_rel hc ha⟩))
  · by_cases h8 : 8 ≤ v1
    · have h7 : ¬ v1 ≤ 7 := Int32.not_le.mpr (jg_78.mp h8)
      exact br_f h0 (br_t h8 (br_t rfl (br_f h0 (br_f h7 ⟨rfl, jg_rel hc ha⟩))))
    · have h7 : v1 ≤ 7 := Int32.not_lt.mp (fun z => h8 (jg_78.mpr z))
      have hi := jg_in8 h0 h8
      exact br_f h0 (br_f h8 (br_f jg_10 ⟨hi, nm_e (br_f h0 (br_t h7 ⟨hi, nm_e ⟨rfl, jg_rel hc (jg_upd _ hc ha)⟩⟩))⟩))
theorem i_vc_back {k : Nat} {u : SX} {v : SY} (I : i_Rel k u v) (hk : k + 4 ≤ 2048) (v1 : Int32) : wpX_back (fun r u' => wpY_back (fun r' v' => r' = r ∧ i_Rel (k + 4) u' v') v v1) u v1 := by
  obtain ⟨c, a, rfl, rfl, hc, ha⟩ := I
  unfold wpX_back wpY_back
  dsimp only
  rcases jg_fill ha c v1 with ⟨hX, hY⟩ | ⟨hi, hX, hY⟩
  · exact hX _ (br_t rfl (hY _ (br_t rfl ⟨rfl, jg_rel hc ha⟩)))
  · exact hX _ (br_f jg_10 ⟨hi, nm_e (hY _ (br_f jg_10 ⟨hi, nm_e ⟨rfl, jg_rel (ha _) ha⟩⟩))⟩)
theorem i_vc_distance {k : Nat} {u : SX} {v : SY} (I : i_Rel k u v) (hk : k + 4 ≤ 2048) (v1 : Int32) : wpX_distance (fun r => wpY_distance (fun r' => r' = r ∧ i_Rel (k + 4) u v) v v1) u v1 := by
  obtain ⟨c, a, rfl, rfl, hc, ha⟩ := I
  unfold wpX_distance wpY_distance
  dsimp only
  rcases jg_state v1 with ⟨hX, hY⟩ | ⟨h0, hX, hY⟩
  · exact hX _ (br_t rfl (hY _ c a (br_t rfl ⟨rfl, jg_rel hc ha⟩)))
  · obtain ⟨r, gX, gY⟩ := jg_cs c v1
    exact hX _ (br_f jg_10 (gX _ (hY _ c a (br_f jg_10 (gY _ c a ⟨rfl, jg_rel hc ha⟩)))))
theorem i_vc_between {k : Nat} {u : SX} {v : SY} (I : i_Rel k u v) (hk : k + 4 ≤ 2048) (v1 : Int32) (v2 : Int32) : wpX_between (fun r => wpY_between (fun r' => r' = r ∧ i_Rel (k + 4) u v) v v1 v2) u v1 v2 := by
  obtain ⟨c, a, rfl, rfl, hc, ha⟩ := I
  unfold wpX_between wpY_between
  dsimp only
  rcases jg_fill ha c v1 with ⟨hX, hY⟩ | ⟨hi, hX, hY⟩
  · exact hX _ (br_t rfl (hY _ (br_t rfl ⟨rfl, jg_rel hc ha⟩)))
  · rcases jg_fill ha c v2 with ⟨kX, kY⟩ | ⟨ki, kX, kY⟩
    · exact hX _ (br_f jg_10 (kX _ (br_t rfl (hY _ (br_f jg_10 (kY _ (br_t rfl ⟨rfl, jg_rel hc ha⟩)))))))
    · obtain ⟨r, gX, gY⟩ := jg_cs (a v1.toNatClampNeg) (a v2.toNatClampNeg)
      exact hX _ (br_f jg_10 (kX _ (br_f jg_10 ⟨hi, ki, gX _ (hY _ (br_f jg_10 (kY _ (br_f jg_10 ⟨hi, ki, gY _ c a ⟨rfl, jg_rel hc ha⟩⟩))))⟩)))
theorem i_vc_mixed {k : Nat} {u : SX} {v : SY} (I : i_Rel k u v) (hk : k + 4 ≤ 2048) (v1 : Int32) : wpX_mixed (fun r => wpY_mixed (fun r' => r' = r ∧ i_Rel (k + 4) u v) v v1) u v1 := by
  obtain ⟨c, a, rfl, rfl, hc, ha⟩ := I
  unfold wpX_mixed wpY_mixed
  dsimp only
  by_cases h0 : v1 < 0
  · exact jg_xc0 h0 (br_t rfl ⟨1, br_t (Int32.le_of_lt h0) (br_t h0 ⟨rfl, jg_rel hc ha⟩)⟩)
  · by_cases h2 : 100000 < v1
    · exact jg_xc2 h0 h2 (br_t rfl ⟨1, br_f (jg_big h2) (br_t h2 (br_f h0 (br_f (Int32.not_le.mpr h2) ⟨rfl, jg_rel hc ha⟩)))⟩)
    · refine jg_xc1 h0 h2 (br_f jg_10 ?_)
      obtain ⟨N, hN, rfl⟩ := jg_nat h0 (Int32.not_lt.mp h2)
      exact ⟨N + 1, jg_xmxL (by omega) N 0 0 c (by omega) ⟨N + 1, jg_ymxL (by omega) h0 h2 N 0 0 c (by omega) ⟨rfl, jg_rel hc ha⟩⟩⟩
theorem i_vc_period {k : Nat} {u : SX} {v : SY} (I : i_Rel k u v) (hk : k + 4 ≤ 2048) : wpX_period (fun r => wpY_period (fun r' => r' = r ∧ i_Rel (k + 4) u v) v) u := by
  obtain ⟨c, a, rfl, rfl, hc, ha⟩ := I
  unfold wpX_period wpY_period
  dsimp only
  obtain ⟨r, gX, gY⟩ := jg_cs (jg_st c) c
  exact jg_xst (gX _ (jg_yst (gY _ c a ⟨Int32.add_comm _ _, jg_rel hc ha⟩)))
theorem i_vc_before {k : Nat} {u : SX} {v : SY} (I : i_Rel k u v) (hk : k + 4 ≤ 2048) (v1 : Int32) (v2 : Int32) : wpX_before (fun r => wpY_before (fun r' => r' = r ∧ i_Rel (k + 4) u v) v v1 v2) u v1 v2 := by
  obtain ⟨c, a, rfl, rfl, hc, ha⟩ := I
  unfold wpX_before wpY_before
  dsimp only
  have J : i_Rel (k + 4) (c, a) (c, a) := jg_rel hc ha
  rcases jg_state v1 with ⟨hX, hY⟩ | ⟨_, hX, hY⟩
  · exact hX _ (br_t rfl (hY _ c a (br_t rfl ⟨rfl, J⟩)))
  · by_cases h0 : v2 < 0
    · exact hX _ (br_f jg_10 (jg_xc0 h0 (br_t rfl (hY _ c a (br_f jg_10 (br_t h0 ⟨rfl, J⟩))))))
    · by_cases h2 : 100000 < v2
      · exact hX _ (br_f jg_10 (jg_xc2 h0 h2 (br_t rfl (hY _ c a (br_f jg_10 (br_f h0 (br_t h2 ⟨rfl, J⟩)))))))
      · obtain ⟨N, hN, rfl⟩ := jg_nat h0 (Int32.not_lt.mp h2)
        exact hX _ (br_f jg_10 (jg_xc1 h0 h2 (br_f jg_10 (jg_xbw (by omega) (hY _ c a (br_f jg_10 (br_f h0 (br_f h2 (jg_ybw (by omega) ⟨rfl, J⟩)))))))))
theorem i_vc_apart {k : Nat} {u : SX} {v : SY} (I : i_Rel k u v) (hk : k + 4 ≤ 2048) (v1 : Int32) (v2 : Int32) (v3 : Int32) : wpX_apart (fun r => wpY_apart (fun r' => r' = r ∧ i_Rel (k + 4) u v) v v1 v2 v3) u v1 v2 v3 := by
  obtain ⟨c, a, rfl, rfl, hc, ha⟩ := I
  unfold wpX_apart wpY_apart
  dsimp only
  have J : i_Rel (k + 4) (c, a) (c, a) := jg_rel hc ha
  rcases jg_state v1 with ⟨hX, hY⟩ | ⟨_, hX, hY⟩
  · exact hX _ (br_t rfl (hY _ c a (br_t rfl ⟨rfl, J⟩)))
  · rcases jg_state v2 with ⟨kX, kY⟩ | ⟨_, kX, kY⟩
    · exact hX _ (br_f jg_10 (kX _ (br_t rfl (hY _ c a (br_f jg_10 (kY _ c a (br_t rfl ⟨rfl, J⟩)))))))
    · by_cases h0 : v3 < 0
      · exact hX _ (br_f jg_10 (kX _ (br_f jg_10 (jg_xc0 h0 (br_t rfl (hY _ c a (br_f jg_10 (kY _ c a (br_f jg_10 (br_t h0 ⟨rfl, J⟩))))))))))
      · by_cases h2 : 100000 < v3
        · exact hX _ (br_f jg_10 (kX _ (br_f jg_10 (jg_xc2 h0 h2 (br_t rfl (hY _ c a (br_f jg_10 (kY _ c a (br_f jg_10 (br_f h0 (br_t h2 ⟨rfl, J⟩)))))))))))
        · obtain ⟨N, hN, rfl⟩ := jg_nat h0 (Int32.not_lt.mp h2)
          exact hX _ (br_f jg_10 (kX _ (br_f jg_10 (jg_xc1 h0 h2 (br_f jg_10 (jg_xfw (by omega) (jg_xfw (by omega) (hY _ c a (br_f jg_10 (kY _ c a (br_f jg_10 (br_f h0 (br_f h2 (jg_yfw (by omega) (jg_yfw (by omega) ⟨rfl, J⟩)))))))))))))))
theorem i_vc_nextRound {k : Nat} {u : SX} {v : SY} (I : i_Rel k u v) (hk : k + 4 ≤ 2048) (v1 : Int32) : wpX_nextRound (fun r => wpY_nextRound (fun r' => r' = r ∧ i_Rel (k + 4) u v) v v1) u v1 := by
  obtain ⟨c, a, rfl, rfl, hc, ha⟩ := I
  unfold wpX_nextRound wpY_nextRound
  dsimp only
  have J : i_Rel (k + 4) (c, a) (c, a) := jg_rel hc ha
  have hz : ¬ (100000 : Int32) < 0 := by decide
  by_cases h0 : v1 < 0
  · exact br_t h0 ⟨1, br_f hz (br_t h0 ⟨rfl, J⟩)⟩
  · by_cases h8 : v1 ≤ 8
    · have h9 : ¬ 8 < v1 := Int32.not_lt.mpr h8
      generalize hd : 100001 = d
      have e0 : 0 + d = 100001 := by omega
      exact br_f h0 (br_t h8 (nm_e ⟨d + 1, jg_xnrL d 0 c e0 ⟨d + 1, jg_ynrL h0 h9 d 0 c e0 ⟨rfl, J⟩⟩⟩))
    · exact br_f h0 (br_f h8 ⟨1, br_f hz (br_f h0 (br_t (Int32.not_le.mp h8) ⟨rfl, J⟩))⟩)
