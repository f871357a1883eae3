/-! what both sides ask of an argument -/
theorem jg_state (p : Int32) : ((∀ post : Int32 → Prop, post 0 → wpX_isState post p) ∧ (∀ (post : Int32 → Prop) (c : Int32) (a : Nat → Int32), post 0 → wpY_isState post (c, a) p)) ∨ (¬ p < 0 ∧ (∀ post : Int32 → Prop, post 1 → wpX_isState post p) ∧ (∀ (post : Int32 → Prop) (c : Int32) (a : Nat → Int32), post 1 → wpY_isState post (c, a) p)) := by
  by_cases h1 : p < 1
  · exact Or.inl ⟨fun _ h => br_t h1 h, fun _ _ _ h => br_t h1 h⟩
  · by_cases h2 : 65535 < p
    · exact Or.inl ⟨fun _ h => br_f h1 (br_t h2 h), fun _ _ _ h => br_f h1 (br_t h2 h)⟩
    · exact Or.inr ⟨jg_pos h1, fun _ h => br_f h1 (br_f h2 h), fun _ _ _ h => br_f h1 (br_f h2 h)⟩
theorem jg_jump (p : Int32) : ((∀ post : Int32 → Prop, post 0 → wpX_isJump post p) ∧ (∀ (post : Int32 → Prop) (c : Int32) (a : Nat → Int32), post 0 → wpY_near post (c, a) p)) ∨ (¬ p < -100000 ∧ ¬ 100000 < p ∧ (∀ post : Int32 → Prop, post 1 → wpX_isJump post p) ∧ (∀ (post : Int32 → Prop) (c : Int32) (a : Nat → Int32), post 1 → wpY_near post (c, a) p)) := by
  by_cases h1 : p < -100000
  · exact Or.inl ⟨fun _ h => br_t h1 h, fun _ _ _ h => br_t h1 h⟩
  · by_cases h2 : 100000 < p
    · exact Or.inl ⟨fun _ h => br_f h1 (br_t h2 h), fun _ _ _ h => br_f h1 (br_t h2 h)⟩
    · exact Or.inr ⟨h1, h2, fun _ h => br_f h1 (br_f h2 h), fun _ _ _ h => br_f h1 (br_f h2 h)⟩
/-- isFilledMark and holds, of marks that are not below 0 -/
theorem jg_fill {a : Nat → Int32} (ha : ∀ j, ¬ a j < 0) (c p : Int32) : ((∀ post : Int32 → Prop, post 0 → wpX_isFilledMark post (c, a) p) ∧ (∀ post : Int32 → Prop, post 0 → wpY_holds post (c, a) p)) ∨ (vp_in p 8 ∧ (∀ post : Int32 → Prop, post 1 → wpX_isFilledMark post (c, a) p) ∧ (∀ post : Int32 → Prop, post 1 → wpY_holds post (c, a) p)) := by
  by_cases h0 : p < 0
  · exact Or.inl ⟨fun _ h => br_t h0 (br_t rfl h), fun _ h => br_t h0 h⟩
  · by_cases h8 : 8 ≤ p
    · exact Or.inl ⟨fun _ h => br_f h0 (br_t h8 (br_t rfl h)), fun _ h => br_f h0 (br_t (jg_78.mp h8) h)⟩
    · have h7 : ¬ 7 < p := fun z => h8 (jg_78.mpr z)
      have hi := jg_in8 h0 h8
      by_cases z : a p.toNatClampNeg = 0
      · have y : a p.toNatClampNeg ≤ 0 := (jg_le0 (ha _)).mpr z
        exact Or.inl ⟨fun _ h => br_f h0 (br_f h8 (br_f jg_10 ⟨hi, br_t z h⟩)), fun _ h => br_f h0 (br_f h7 ⟨hi, br_t y h⟩)⟩
      · have y : ¬ a p.toNatClampNeg ≤ 0 := fun w => z ((jg_le0 (ha _)).mp w)
        exact Or.inr ⟨hi, fun _ h => br_f h0 (br_f h8 (br_f jg_10 ⟨hi, br_f z h⟩)), fun _ h => br_f h0 (br_f h7 ⟨hi, br_f y h⟩)⟩
theorem jg_xc0 {post : Int32 → Prop} {p : Int32} (h0 : p < 0) (h : post 0) : wpX_isCount post p := br_t h0 h
theorem jg_xc2 {post : Int32 → Prop} {p : Int32} (h0 : ¬ p < 0) (h2 : 100000 < p) (h : post 0) : wpX_isCount post p := br_f h0 (br_t h2 h)
theorem jg_xc1 {post : Int32 → Prop} {p : Int32} (h0 : ¬ p < 0) (h2 : ¬ 100000 < p) (h : post 1) : wpX_isCount post p := br_f h0 (br_f h2 h)
