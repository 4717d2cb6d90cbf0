section EXE
/-! take: the smallest extent that holds n -/
theorem ex_1000 : nI 1000 = 1000 := by decide +kernel
theorem ex_257' : nI 257 = 257 := by decide +kernel
def ex_tk (a : Nat → Int32) (n : Nat) (b s b' s' : Int32) : Prop :=
  (b = -6 ∧ s = nI 257 ∧ b' = -1 ∧ s' = nI 1000) ∨ ∃ p, p < 256 ∧ n ≤ ex_run a p ∧ b = nI p ∧ s = nI (ex_run a p) ∧ b' = nI p ∧ s' = nI (ex_run a p)
theorem ex_take (a : Nat → Int32) (n : Nat) (hn : n ≤ 256) : ∀ d j b s b' s', j + d = 256 → ex_tk a n b s b' s' →
    ∃ b1 s1 b1' s1', ex_tk a n b1 s1 b1' s1' ∧ (∀ post : Int32 → Prop, post b1 → wX_smallestWith_10 post (nI n) a (d + 1) b s (nI j)) ∧
      (∀ post : Int32 → SY → Prop, wY_take_20 post (nI n) a 1 b1' s1' (nI 256) → wY_take_20 post (nI n) a (d + 1) b' s' (nI j)) := by
  intro d
  induction d with
  | zero =>
    intro j b s b' s' hj h
    obtain rfl : j = 256 := by omega
    exact ⟨b, s, b', s', h, fun _ h => br_t ex_ge256 h, fun _ h => h⟩
  | succ d ih =>
    intro j b s b' s' hj h
    have hl : j < 256 := by omega
    have hl' : j ≤ 256 := by omega
    have hr := ex_run_le a j
    by_cases hb : ex_bg a j
    · by_cases hs : ex_run a j < n
      · obtain ⟨b1, s1, b1', s1', h1, hX, hY⟩ := ih (j + 1) b s b' s' (by omega) h
        have hs' : nI (ex_run a j) < nI n := nI_lt hs (by omega)
        exact ⟨b1, s1, b1', s1', h1, fun post h => br_f (ex_lt256 hl) (ex_xP1 hl hb (br_f ex_10 (ex_xR hl' (br_t hs' (nm_r (nI_1 j) (hX post h)))))),
          fun post h => br_f (ex_lt256 hl) (ex_yP1 hl hb (br_f ex_10 (ex_yR hl' (br_t hs' (nm_r (nI_1 j) (hY post h))))))⟩
      · have hs' : ¬ nI (ex_run a j) < nI n := nI_nlt (by omega) (by omega)
        by_cases hk : s ≤ nI (ex_run a j)
        · have hk' : s' ≤ nI (ex_run a j) := by
            rcases h with ⟨_, e, _, _⟩ | ⟨p, _, _, _, e, _, e'⟩
            · rw [e] at hk
              exact absurd hk (nI_ge (by omega) (by omega))
            · rw [e', ← e]; exact hk
          obtain ⟨b1, s1, b1', s1', h1, hX, hY⟩ := ih (j + 1) b s b' s' (by omega) h
          exact ⟨b1, s1, b1', s1', h1, fun post h => br_f (ex_lt256 hl) (ex_xP1 hl hb (br_f ex_10 (ex_xR hl' (br_f hs' (br_t hk (nm_r (nI_1 j) (hX post h))))))),
            fun post h => br_f (ex_lt256 hl) (ex_yP1 hl hb (br_f ex_10 (ex_yR hl' (br_f hs' (br_t hk' (nm_r (nI_1 j) (hY post h)))))))⟩
        · have hk' : ¬ s' ≤ nI (ex_run a j) := by
            rcases h with ⟨_, _, _, e⟩ | ⟨p, _, _, _, e, _, e'⟩
            · rw [e]; exact nI_ge (by omega) (by omega)
            · rw [e', ← e]; exact hk
          obtain ⟨b1, s1, b1', s1', h1, hX, hY⟩ := ih (j + 1) (nI j) (nI (ex_run a j)) (nI j) (nI (ex_run a j)) (by omega) (Or.inr ⟨j, hl, by omega, rfl, rfl, rfl, rfl⟩)
          exact ⟨b1, s1, b1', s1', h1, fun post h => br_f (ex_lt256 hl) (ex_xP1 hl hb (br_f ex_10 (ex_xR hl' (br_f hs' (br_f hk (nm_r (nI_1 j) (hX post h))))))),
            fun post h => br_f (ex_lt256 hl) (ex_yP1 hl hb (br_f ex_10 (ex_yR hl' (br_f hs' (br_f hk' (nm_r (nI_1 j) (hY post h)))))))⟩
    · obtain ⟨b1, s1, b1', s1', h1, hX, hY⟩ := ih (j + 1) b s b' s' (by omega) h
      exact ⟨b1, s1, b1', s1', h1, fun post h => br_f (ex_lt256 hl) (ex_xP0 hl hb (br_t rfl (nm_r (nI_1 j) (hX post h)))),
        fun post h => br_f (ex_lt256 hl) (ex_yP0 hl hb (br_t rfl (nm_r (nI_1 j) (hY post h))))⟩
theorem ex_m1n : ¬ (0 : Int32) ≤ -1 := by decide
/-- one answer and one state for both -/
theorem ex_takeA (a : Nat → Int32) (hB : ex_B a) (x : Int32) : ∃ (r : Int32) (a1 : Nat → Int32), ex_B a1 ∧ (∀ post : Int32 → SX → Prop, post r a1 → wpX_take post a x) ∧ (∀ post : Int32 → SY → Prop, post r a1 → wpY_take post a x) := by
  rcases ex_size x with ⟨n, h1, h2, rfl⟩ | ⟨hX, hY⟩
  · obtain ⟨b1, s1, b1', s1', h, hX, hY⟩ := ex_take a n h2 256 0 (-6) (nI 257) (-1) (nI 1000) rfl (Or.inl ⟨rfl, rfl, rfl, rfl⟩)
    rw [nI_0, ex_257'] at hX
    rw [nI_0, ex_1000] at hY
    rcases h with ⟨e, _, e', _⟩ | ⟨p, hp, hr, e, _, e', _⟩
    · subst e e'
      refine ⟨-3, a, hB, fun post h => ?_, fun post h => ?_⟩
      · exact ex_xSz h1 h2 (br_f ex_10 ⟨_, hX _ (br_t rfl h)⟩)
      · exact ex_ySz h1 h2 (br_t rfl ⟨_, hY post (br_t ex_ge256 (br_f ex_m1n h))⟩)
    · subst e e'
      have hl := ex_run_le a p
      refine ⟨nI p, ex_st 1 n p a, ex_B_st (Or.inr rfl) _ _ _ hB, fun post h => ?_, fun post h => ?_⟩
      · exact ex_xSz h1 h2 (br_f ex_10 ⟨_, hX _ (br_f (ex_ne6 (by omega)) (ex_xS ex_vb1 (by omega) h))⟩)
      · exact ex_ySz h1 h2 (br_t rfl ⟨_, hY post (br_t ex_ge256 (br_t (nI_pos' (by omega)) (ex_yS ex_vb1 (by omega) h)))⟩)
  · exact ⟨-2, a, hB, fun post h => hX _ _ (br_t rfl h), fun post h => hY _ _ (br_f ex_10 h)⟩

/-! takeNear: the nearest -/
def ex_ds (x y : Nat) : Nat := (y - x) + (x - y)
theorem ex_ds_t {x y : Nat} (h : y ≤ x) : nI x - nI y = nI (ex_ds x y) := by
  rw [ex_sub h]; unfold ex_ds; congr 1; omega
theorem ex_ds_f {x y : Nat} (h : x < y) : nI y - nI x = nI (ex_ds x y) := by
  rw [ex_sub (by omega)]; unfold ex_ds; congr 1; omega
theorem ex_ds_lt {x y : Nat} (hx : x < 256) (hy : y < 256) : ex_ds x y < 256 := by unfold ex_ds; omega
theorem ex_yAw {post : Int32 → Prop} {a : Nat → Int32} {x y : Nat} (hx : x < 256) (hy : y < 256) (h : post (nI (ex_ds x y))) : wpY_away post a (nI x) (nI y) := by
  by_cases c : y ≤ x
  · refine br_t (nI_le c (by omega)) ?_
    rw [ex_ds_t c]; exact h
  · refine br_f (nI_ge (by omega) (by omega)) ?_
    rw [ex_ds_f (by omega)]; exact h
theorem ex_xAw {P : Int32 → Prop} {x y : Nat} (hx : x < 256) (hy : y < 256) (h : P (nI (ex_ds x y))) : (nI y ≤ nI x → P (nI x - nI y)) ∧ (¬ nI y ≤ nI x → P (nI y - nI x)) := by
  by_cases c : y ≤ x
  · refine br_t (nI_le c (by omega)) ?_
    rw [ex_ds_t c]; exact h
  · refine br_f (nI_ge (by omega) (by omega)) ?_
    rw [ex_ds_f (by omega)]; exact h
def ex_nr (a : Nat → Int32) (q n : Nat) (b t b' : Int32) : Prop :=
  (b = -6 ∧ t = nI 256 ∧ b' = -1) ∨ ∃ p, p < 256 ∧ n ≤ ex_run a p ∧ b = nI p ∧ t = nI (ex_ds p q) ∧ b' = nI p
theorem ex_near (a : Nat → Int32) (q n : Nat) (hq : q < 256) (hn : n ≤ 256) : ∀ d j b t b', j + d = 256 → ex_nr a q n b t b' →
    ∃ b1 t1 b1', ex_nr a q n b1 t1 b1' ∧ (∀ post : Int32 → Prop, post b1 → wX_nearestWith_11 post (nI q) (nI n) a (d + 1) b t (nI j)) ∧
      (∀ post : Int32 → SY → Prop, wY_takeNear_26 post (nI q) (nI n) a 1 b1' (nI 256) → wY_takeNear_26 post (nI q) (nI n) a (d + 1) b' (nI j)) := by
  intro d
  induction d with
  | zero =>
    intro j b t b' hj h
    obtain rfl : j = 256 := by omega
    exact ⟨b, t, b', h, fun _ h => br_t ex_ge256 h, fun _ h => h⟩
  | succ d ih =>
    intro j b t b' hj h
    have hl : j < 256 := by omega
    have hl' : j ≤ 256 := by omega
    have hr := ex_run_le a j
    have hd := ex_ds_lt hl hq
    by_cases hb : ex_bg a j
    · by_cases hs : ex_run a j < n
      · obtain ⟨b1, t1, b1', h1, hX, hY⟩ := ih (j + 1) b t b' (by omega) h
        have hs' : nI (ex_run a j) < nI n := nI_lt hs (by omega)
        exact ⟨b1, t1, b1', h1, fun post h => br_f (ex_lt256 hl) (ex_xP1 hl hb (br_f ex_10 (ex_xR hl' (br_t hs' (nm_r (nI_1 j) (hX post h)))))),
          fun post h => br_f (ex_lt256 hl) (ex_yP1 hl hb (br_f ex_10 (ex_yR hl' (br_t hs' (nm_r (nI_1 j) (hY post h))))))⟩
      · have hs' : ¬ nI (ex_run a j) < nI n := nI_nlt (by omega) (by omega)
        have kX : ∀ (post : Int32 → Prop), wX_nearestWith_55 post (wX_nearestWith_11 post (nI q) (nI n) a (d + 1)) (nI q) (nI n) b t (nI j) (nI (ex_ds j q)) a → wX_nearestWith_11 post (nI q) (nI n) a (d + 1 + 1) b t (nI j) := fun post h =>
          br_f (ex_lt256 hl) (ex_xP1 hl hb (br_f ex_10 (ex_xR hl' (br_f hs' (ex_xAw (P := fun z => wX_nearestWith_55 post (wX_nearestWith_11 post (nI q) (nI n) a (d + 1)) (nI q) (nI n) b t (nI j) z a) hl hq h)))))
        rcases h with ⟨e1, e2, e3⟩ | ⟨p, hp, hpr, e1, e2, e3⟩
        · subst e1 e2 e3
          have hk : ¬ nI 256 ≤ nI (ex_ds j q) := nI_ge hd (by omega)
          obtain ⟨b1, t1, b1', h1, hX, hY⟩ := ih (j + 1) (nI j) (nI (ex_ds j q)) (nI j) (by omega) (Or.inr ⟨j, hl, by omega, rfl, rfl, rfl⟩)
          exact ⟨b1, t1, b1', h1, fun post h => kX post (br_f hk (nm_r (nI_1 j) (hX post h))),
            fun post h => br_f (ex_lt256 hl) (ex_yP1 hl hb (br_f ex_10 (ex_yR hl' (br_f hs' (br_t (by decide) (nm_r (nI_1 j) (hY post h)))))))⟩
        · subst e1 e2 e3
          have hdp := ex_ds_lt hp hq
          by_cases hk : ex_ds p q ≤ ex_ds j q
          · have hk' : nI (ex_ds p q) ≤ nI (ex_ds j q) := nI_le hk (by omega)
            obtain ⟨b1, t1, b1', h1, hX, hY⟩ := ih (j + 1) (nI p) (nI (ex_ds p q)) (nI p) (by omega) (Or.inr ⟨p, hp, hpr, rfl, rfl, rfl⟩)
            exact ⟨b1, t1, b1', h1, fun post h => kX post (br_t hk' (nm_r (nI_1 j) (hX post h))),
              fun post h => br_f (ex_lt256 hl) (ex_yP1 hl hb (br_f ex_10 (ex_yR hl' (br_f hs' (br_f (nI_pos (by omega)) (ex_yAw hl hq (ex_yAw hp hq (br_t hk' (nm_r (nI_1 j) (hY post h))))))))))⟩
          · have hk' : ¬ nI (ex_ds p q) ≤ nI (ex_ds j q) := nI_ge (by omega) (by omega)
            obtain ⟨b1, t1, b1', h1, hX, hY⟩ := ih (j + 1) (nI j) (nI (ex_ds j q)) (nI j) (by omega) (Or.inr ⟨j, hl, by omega, rfl, rfl, rfl⟩)
            exact ⟨b1, t1, b1', h1, fun post h => kX post (br_f hk' (nm_r (nI_1 j) (hX post h))),
              fun post h => br_f (ex_lt256 hl) (ex_yP1 hl hb (br_f ex_10 (ex_yR hl' (br_f hs' (br_f (nI_pos (by omega)) (ex_yAw hl hq (ex_yAw hp hq (br_f hk' (nm_r (nI_1 j) (hY post h))))))))))⟩
    · obtain ⟨b1, t1, b1', h1, hX, hY⟩ := ih (j + 1) b t b' (by omega) h
      exact ⟨b1, t1, b1', h1, fun post h => br_f (ex_lt256 hl) (ex_xP0 hl hb (br_t rfl (nm_r (nI_1 j) (hX post h)))),
        fun post h => br_f (ex_lt256 hl) (ex_yP0 hl hb (br_t rfl (nm_r (nI_1 j) (hY post h))))⟩
theorem ex_nearA (a : Nat → Int32) (hB : ex_B a) (y x : Int32) : ∃ (r : Int32) (a1 : Nat → Int32), ex_B a1 ∧ (∀ post : Int32 → SX → Prop, post r a1 → wpX_takeNear post a y x) ∧ (∀ post : Int32 → SY → Prop, post r a1 → wpY_takeNear post a y x) := by
  rcases ex_blk y with ⟨q, hq, rfl⟩ | ⟨hX, hY⟩
  · rcases ex_size x with ⟨n, h1, h2, rfl⟩ | ⟨hX, hY⟩
    · obtain ⟨b1, t1, b1', h, hX, hY⟩ := ex_near a q n hq h2 256 0 (-6) (nI 256) (-1) rfl (Or.inl ⟨rfl, rfl, rfl⟩)
      rw [nI_0, ex_256] at hX
      rw [nI_0] at hY
      rcases h with ⟨e, _, e'⟩ | ⟨p, hp, hr, e, _, e'⟩
      · subst e e'
        refine ⟨-3, a, hB, fun post h => ?_, fun post h => ?_⟩
        · exact ex_xB hq (br_f ex_10 (ex_xSz h1 h2 (br_f ex_10 ⟨_, hX _ (br_t rfl h)⟩)))
        · exact ex_yBB hq (br_t rfl (ex_ySz h1 h2 (br_t rfl ⟨_, hY post (br_t ex_ge256 (br_f ex_m1n h))⟩)))
      · subst e e'
        have hl := ex_run_le a p
        refine ⟨nI p, ex_st 1 n p a, ex_B_st (Or.inr rfl) _ _ _ hB, fun post h => ?_, fun post h => ?_⟩
        · exact ex_xB hq (br_f ex_10 (ex_xSz h1 h2 (br_f ex_10 ⟨_, hX _ (br_f (ex_ne6 (by omega)) (ex_xS ex_vb1 (by omega) h))⟩)))
        · exact ex_yBB hq (br_t rfl (ex_ySz h1 h2 (br_t rfl ⟨_, hY post (br_t ex_ge256 (br_t (nI_pos' (by omega)) (ex_yS ex_vb1 (by omega) h)))⟩)))
    · exact ⟨-2, a, hB, fun post h => ex_xB hq (br_f ex_10 (hX _ _ (br_t rfl h))), fun post h => ex_yBB hq (br_t rfl (hY _ _ (br_f ex_10 h)))⟩
  · exact ⟨-1, a, hB, fun post h => hX _ _ (br_t rfl h), fun post h => hY _ _ (br_f ex_10 h)⟩
end EXE
