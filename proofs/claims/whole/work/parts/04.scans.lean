section EXD
/-! scans that both sides do alike: in lockstep -/
theorem ex_cnt (a : Nat → Int32) (x : Int32) : ∀ d j c, j + d = 256 → ∃ r : Int32, (∀ post : Int32 → Prop, post r → wX_countWith_4 post x a (d + 1) c (nI j)) ∧ (∀ post : Int32 → Prop, post r → wY_atLeast_4 post x a (d + 1) c (nI j)) := by
  intro d
  induction d with
  | zero =>
    intro j c hj
    obtain rfl : j = 256 := by omega
    exact ⟨c, fun _ h => br_t ex_ge256 h, fun _ h => br_t ex_ge256 h⟩
  | succ d ih =>
    intro j c hj
    have hl : j < 256 := by omega
    have hl' : j ≤ 256 := by omega
    by_cases hb : ex_bg a j
    · by_cases hs : nI (ex_run a j) < x
      · obtain ⟨r, hX, hY⟩ := ih (j + 1) c (by omega)
        exact ⟨r, fun post h => br_f (ex_lt256 hl) (ex_xP1 hl hb (br_f ex_10 (ex_xR hl' (br_t hs (nm_r (nI_1 j) (hX post h)))))),
          fun post h => br_f (ex_lt256 hl) (ex_yP1 hl hb (br_f ex_10 (ex_yR hl' (br_t hs (nm_r (nI_1 j) (hY post h))))))⟩
      · obtain ⟨r, hX, hY⟩ := ih (j + 1) (c + 1) (by omega)
        exact ⟨r, fun post h => br_f (ex_lt256 hl) (ex_xP1 hl hb (br_f ex_10 (ex_xR hl' (br_f hs (nm_e (nm_r (nI_1 j) (hX post h))))))),
          fun post h => br_f (ex_lt256 hl) (ex_yP1 hl hb (br_f ex_10 (ex_yR hl' (br_f hs (nm_e (nm_r (nI_1 j) (hY post h)))))))⟩
    · obtain ⟨r, hX, hY⟩ := ih (j + 1) c (by omega)
      exact ⟨r, fun post h => br_f (ex_lt256 hl) (ex_xP0 hl hb (br_t rfl (nm_r (nI_1 j) (hX post h)))),
        fun post h => br_f (ex_lt256 hl) (ex_yP0 hl hb (br_t rfl (nm_r (nI_1 j) (hY post h))))⟩
theorem ex_cntA (a : Nat → Int32) (x : Int32) : ∃ r : Int32, (∀ post : Int32 → Prop, post r → wpX_countWith post a x) ∧ (∀ post : Int32 → Prop, post r → wpY_atLeast post a x) := by
  obtain ⟨r, hX, hY⟩ := ex_cnt a x 256 0 0 rfl
  rw [nI_0] at hX hY
  exact ⟨r, fun post h => ⟨_, hX post h⟩, fun post h => ⟨_, hY post h⟩⟩
theorem ex_ext (a : Nat → Int32) : ∃ r : Int32, (∀ post : Int32 → Prop, post r → wpX_extents post a) ∧ (∀ post : Int32 → Prop, post r → wpY_extents post a) := by
  obtain ⟨r, hX, hY⟩ := ex_cntA a 1
  exact ⟨r, fun post h => hX _ h, fun post h => hY _ h⟩
theorem ex_nxt (a : Nat → Int32) : ∀ d j, j + d = 256 → ∃ r : Int32, (∀ post : Int32 → Prop, post r → wX_next_12 post a (d + 1) (nI j)) ∧ (∀ post : Int32 → Prop, post r → wY_next_12 post a (d + 1) (nI j)) := by
  intro d
  induction d with
  | zero =>
    intro j hj
    obtain rfl : j = 256 := by omega
    exact ⟨-6, fun _ h => br_t ex_ge256 h, fun _ h => br_t ex_ge256 h⟩
  | succ d ih =>
    intro j hj
    have hl : j < 256 := by omega
    by_cases hb : ex_bg a j
    · exact ⟨nI j, fun post h => br_f (ex_lt256 hl) (ex_xP1 hl hb (br_f ex_10 h)), fun post h => br_f (ex_lt256 hl) (ex_yP1 hl hb (br_f ex_10 h))⟩
    · obtain ⟨r, hX, hY⟩ := ih (j + 1) (by omega)
      exact ⟨r, fun post h => br_f (ex_lt256 hl) (ex_xP0 hl hb (br_t rfl (nm_r (nI_1 j) (hX post h)))),
        fun post h => br_f (ex_lt256 hl) (ex_yP0 hl hb (br_t rfl (nm_r (nI_1 j) (hY post h))))⟩
theorem ex_fb (a : Nat → Int32) : ∀ d j c, j + d = 256 → ∃ r : Int32, (∀ post : Int32 → Prop, post r → wX_freeBlocks_4 post a (d + 1) c (nI j)) ∧ (∀ post : Int32 → Prop, post r → wY_freeBlocks_4 post a (d + 1) c (nI j)) := by
  intro d
  induction d with
  | zero =>
    intro j c hj
    obtain rfl : j = 256 := by omega
    exact ⟨c, fun _ h => br_t ex_ge256 h, fun _ h => br_t ex_ge256 h⟩
  | succ d ih =>
    intro j c hj
    have hl : j < 256 := by omega
    have hl' : j ≤ 256 := by omega
    have hi : vp_in (nI j) 256 := vp_in_nI hl (by omega)
    by_cases z : a j = 0
    · obtain ⟨r, hX, hY⟩ := ih (j + 1) (c + 1) (by omega)
      exact ⟨r, fun post h => br_f (ex_lt256 hl) ⟨hi, br_t (ex_z hl' z) (nm_e (nm_r (nI_1 j) (hX post h)))⟩,
        fun post h => br_f (ex_lt256 hl) ⟨hi, br_t (ex_z hl' z) (nm_e (nm_r (nI_1 j) (hY post h)))⟩⟩
    · obtain ⟨r, hX, hY⟩ := ih (j + 1) c (by omega)
      exact ⟨r, fun post h => br_f (ex_lt256 hl) ⟨hi, br_f (ex_nz hl' z) (nm_r (nI_1 j) (hX post h))⟩,
        fun post h => br_f (ex_lt256 hl) ⟨hi, br_f (ex_nz hl' z) (nm_r (nI_1 j) (hY post h))⟩⟩
theorem ex_by1 (a : Nat → Int32) (x y : Int32) : ∀ d j c, j + d = 256 →
    (∃ r : Int32, (∀ (post : Int32 → Prop) (J : Int32 → Int32 → Prop), post r → wX_bySize_14 post J x y a (d + 1) c (nI j)) ∧ (∀ (post : Int32 → Prop) (J : Int32 → Int32 → Prop), post r → wY_bySize_14 post J x y a (d + 1) c (nI j))) ∨
    (∃ r : Int32, (∀ (post : Int32 → Prop) (J : Int32 → Int32 → Prop), J r (y + 1) → wX_bySize_14 post J x y a (d + 1) c (nI j)) ∧ (∀ (post : Int32 → Prop) (J : Int32 → Int32 → Prop), J r (y + 1) → wY_bySize_14 post J x y a (d + 1) c (nI j))) := by
  intro d
  induction d with
  | zero =>
    intro j c hj
    obtain rfl : j = 256 := by omega
    exact Or.inr ⟨c, fun _ _ h => br_t ex_ge256 (nm_e h), fun _ _ h => br_t ex_ge256 (nm_e h)⟩
  | succ d ih =>
    intro j c hj
    have hl : j < 256 := by omega
    have hl' : j ≤ 256 := by omega
    by_cases hb : ex_bg a j
    · by_cases hs : nI (ex_run a j) = y
      · by_cases hc : c = x
        · exact Or.inl ⟨nI j, fun post J h => br_f (ex_lt256 hl) (ex_xP1 hl hb (br_f ex_10 (ex_xR hl' (br_t hs (br_t hc h))))),
            fun post J h => br_f (ex_lt256 hl) (ex_yP1 hl hb (br_f ex_10 (ex_yR hl' (br_t hs (br_t hc h)))))⟩
        · rcases ih (j + 1) (c + 1) (by omega) with ⟨r, hX, hY⟩ | ⟨r, hX, hY⟩
          · exact Or.inl ⟨r, fun post J h => br_f (ex_lt256 hl) (ex_xP1 hl hb (br_f ex_10 (ex_xR hl' (br_t hs (br_f hc (nm_e (nm_r (nI_1 j) (hX post J h)))))))),
              fun post J h => br_f (ex_lt256 hl) (ex_yP1 hl hb (br_f ex_10 (ex_yR hl' (br_t hs (br_f hc (nm_e (nm_r (nI_1 j) (hY post J h))))))))⟩
          · exact Or.inr ⟨r, fun post J h => br_f (ex_lt256 hl) (ex_xP1 hl hb (br_f ex_10 (ex_xR hl' (br_t hs (br_f hc (nm_e (nm_r (nI_1 j) (hX post J h)))))))),
              fun post J h => br_f (ex_lt256 hl) (ex_yP1 hl hb (br_f ex_10 (ex_yR hl' (br_t hs (br_f hc (nm_e (nm_r (nI_1 j) (hY post J h))))))))⟩
      · rcases ih (j + 1) c (by omega) with ⟨r, hX, hY⟩ | ⟨r, hX, hY⟩
        · exact Or.inl ⟨r, fun post J h => br_f (ex_lt256 hl) (ex_xP1 hl hb (br_f ex_10 (ex_xR hl' (br_f hs (nm_r (nI_1 j) (hX post J h)))))),
            fun post J h => br_f (ex_lt256 hl) (ex_yP1 hl hb (br_f ex_10 (ex_yR hl' (br_f hs (nm_r (nI_1 j) (hY post J h))))))⟩
        · exact Or.inr ⟨r, fun post J h => br_f (ex_lt256 hl) (ex_xP1 hl hb (br_f ex_10 (ex_xR hl' (br_f hs (nm_r (nI_1 j) (hX post J h)))))),
            fun post J h => br_f (ex_lt256 hl) (ex_yP1 hl hb (br_f ex_10 (ex_yR hl' (br_f hs (nm_r (nI_1 j) (hY post J h))))))⟩
    · rcases ih (j + 1) c (by omega) with ⟨r, hX, hY⟩ | ⟨r, hX, hY⟩
      · exact Or.inl ⟨r, fun post J h => br_f (ex_lt256 hl) (ex_xP0 hl hb (br_t rfl (nm_r (nI_1 j) (hX post J h)))),
          fun post J h => br_f (ex_lt256 hl) (ex_yP0 hl hb (br_t rfl (nm_r (nI_1 j) (hY post J h))))⟩
      · exact Or.inr ⟨r, fun post J h => br_f (ex_lt256 hl) (ex_xP0 hl hb (br_t rfl (nm_r (nI_1 j) (hX post J h)))),
          fun post J h => br_f (ex_lt256 hl) (ex_yP0 hl hb (br_t rfl (nm_r (nI_1 j) (hY post J h))))⟩
theorem ex_257 : nI 257 = 257 := by decide +kernel
theorem ex_by2 (a : Nat → Int32) (x : Int32) : ∀ d s c, s + d = 257 → ∃ r : Int32, (∀ post : Int32 → Prop, post r → wX_bySize_4 post x a (d + 1) c (nI s)) ∧ (∀ post : Int32 → Prop, post r → wY_bySize_4 post x a (d + 1) c (nI s)) := by
  intro d
  induction d with
  | zero =>
    intro s c hs
    obtain rfl : s = 257 := by omega
    have h1 : (256 : Int32) < nI 257 := by rw [← ex_256]; exact nI_lt (by omega) (by omega)
    have h2 : (257 : Int32) ≤ nI 257 := by rw [← ex_257]; exact nI_le (by omega) (by omega)
    exact ⟨-6, fun _ h => br_t h1 h, fun _ h => br_t h2 h⟩
  | succ d ih =>
    intro s c hs
    have h1 : ¬ (256 : Int32) < nI s := by rw [← ex_256]; exact nI_nlt (by omega) (by omega)
    have h2 : ¬ (257 : Int32) ≤ nI s := by rw [← ex_257]; exact nI_ge (by omega) (by omega)
    rcases ex_by1 a x (nI s) 256 0 c rfl with ⟨r, hX, hY⟩ | ⟨r, hX, hY⟩
    · rw [nI_0] at hX hY
      exact ⟨r, fun post h => br_f h1 ⟨_, hX post _ h⟩, fun post h => br_f h2 ⟨_, hY post _ h⟩⟩
    · rw [nI_0, nI_1] at hX hY
      obtain ⟨q, kX, kY⟩ := ih (s + 1) r (by omega)
      exact ⟨q, fun post h => br_f h1 ⟨_, hX post _ (kX post h)⟩, fun post h => br_f h2 ⟨_, hY post _ (kY post h)⟩⟩
end EXD
