section EXF
/-! takeAt, give, sizeAt -/
theorem ex_m2n : ¬ (0 : Int32) ≤ -2 := by decide
theorem ex_refB {post : Int32 → Prop} {a : Nat → Int32} {y x : Int32} (hY : ∀ (post : Int32 → Prop) (a : Nat → Int32), post 1 → wpY_badBlock post a y) (h : post (-1)) : wpY_refusal post a y x := hY _ _ (br_f ex_10 h)
theorem ex_ref {p : Nat} (hp : p < 256) (x : Int32) : (∃ n : Nat, 1 ≤ n ∧ p + n ≤ 256 ∧ x = nI n ∧ (∀ (post : Int32 → Prop) (a : Nat → Int32), post 1 → wpX_fits post a (nI p) x) ∧ (∀ (post : Int32 → Prop) (a : Nat → Int32), post 0 → wpY_refusal post a (nI p) x)) ∨
    ((∀ (post : Int32 → Prop) (a : Nat → Int32), post 0 → wpX_fits post a (nI p) x) ∧ (∀ (post : Int32 → Prop) (a : Nat → Int32), post (-2) → wpY_refusal post a (nI p) x)) := by
  have e : (256 : Int32) - nI p = nI (256 - p) := by rw [← ex_256]; exact ex_sub (by omega)
  rcases ex_size x with ⟨n, h1, h2, rfl⟩ | ⟨hX, hY⟩
  · by_cases c : p + n ≤ 256
    · left
      have c1 : ¬ (256 : Int32) - nI p < nI n := by rw [e]; exact nI_nlt (by omega) (by omega)
      have c2 : nI n ≤ (256 : Int32) - nI p := by rw [e]; exact nI_le (by omega) (by omega)
      exact ⟨n, h1, c, rfl, fun post a h => ex_xSz h1 h2 (br_f ex_10 (br_f c1 h)), fun post a h => ex_yBB hp (br_t rfl (ex_ySz h1 h2 (br_t rfl (br_t c2 h))))⟩
    · right
      have c1 : (256 : Int32) - nI p < nI n := by rw [e]; exact nI_lt (by omega) (by omega)
      have c2 : ¬ nI n ≤ (256 : Int32) - nI p := by rw [e]; exact nI_ge (by omega) (by omega)
      exact ⟨fun post a h => ex_xSz h1 h2 (br_f ex_10 (br_t c1 h)), fun post a h => ex_yBB hp (br_t rfl (ex_ySz h1 h2 (br_t rfl (br_f c2 h))))⟩
  · exact Or.inr ⟨fun post a h => hX _ _ (br_t rfl h), fun post a h => ex_yBB hp (br_t rfl (hY _ _ (br_f ex_10 h)))⟩

theorem ex_xA1 {post : Int32 → Prop} {a : Nat → Int32} (hB : ex_B a) {p n : Nat} (hn : p + n ≤ 256) : ∀ d j, j + d = p + n → (ex_run a j < d → post 1) → (d ≤ ex_run a j → post 0) → wX_anyIs_3 post (nI p) (nI n) 1 a (d + 1) (nI j) := by
  intro d
  induction d with
  | zero =>
    intro j hj _ h
    have c : nI p + nI n ≤ nI j := by rw [nI_add]; exact nI_le (by omega) (by omega)
    exact br_t c (h (Nat.zero_le _))
  | succ d ih =>
    intro j hj h1 h0
    have c : ¬ nI p + nI n ≤ nI j := by rw [nI_add]; exact nI_ge (by omega) (by omega)
    refine br_f c ⟨vp_in_nI (by omega) (by omega), ?_⟩
    by_cases z : a j = 0
    · have z1 : ¬ a j = 1 := by rw [z]; decide
      have e := ex_run_s (a := a) (b := j) (by omega) z
      exact br_f (ex_nz (by omega) z1) (nm_r (nI_1 j) (ih (j + 1) (by omega) (fun l => h1 (by omega)) (fun l => h0 (by omega))))
    · have z1 : a j = 1 := (hB j).resolve_left z
      have e := ex_run_0 z
      exact br_t (ex_z (by omega) z1) (h1 (by omega))
theorem ex_atA (a : Nat → Int32) (hB : ex_B a) (y x : Int32) : ∃ (r : Int32) (a1 : Nat → Int32), ex_B a1 ∧ (∀ post : Int32 → SX → Prop, post r a1 → wpX_takeAt post a y x) ∧ (∀ post : Int32 → SY → Prop, post r a1 → wpY_takeAt post a y x) := by
  rcases ex_blk y with ⟨p, hp, rfl⟩ | ⟨hX, hY⟩
  · rcases ex_ref hp x with ⟨n, h1, h2, rfl, hX, hY⟩ | ⟨hX, hY⟩
    · have hl := ex_run_le a p
      by_cases c : n ≤ ex_run a p
      · have c' : nI n ≤ nI (ex_run a p) := nI_le c (by omega)
        obtain ⟨r, kX, kY⟩ := ex_ext (ex_st 1 n p a)
        refine ⟨r, ex_st 1 n p a, ex_B_st (Or.inr rfl) _ _ _ hB, fun post h => ?_, fun post h => ?_⟩
        · refine ex_xB hp (br_f ex_10 (hX _ _ (br_f ex_10 ?_)))
          exact ⟨n + 1, ex_xA1 hB h2 n p rfl (fun l => absurd l (by omega)) (fun _ => br_t rfl (ex_xS ex_vb1 h2 (kX _ h)))⟩
        · exact hY _ _ (br_t (Int32.le_refl _) (ex_yR (by omega) (br_t c' (ex_yS ex_vb1 h2 (kY _ h)))))
      · have c' : ¬ nI n ≤ nI (ex_run a p) := nI_ge (by omega) (by omega)
        refine ⟨-4, a, hB, fun post h => ?_, fun post h => ?_⟩
        · refine ex_xB hp (br_f ex_10 (hX _ _ (br_f ex_10 ?_)))
          exact ⟨n + 1, ex_xA1 hB h2 n p rfl (fun _ => br_f ex_10 h) (fun l => absurd l (by omega))⟩
        · exact hY _ _ (br_t (Int32.le_refl _) (ex_yR (by omega) (br_f c' h)))
    · exact ⟨-2, a, hB, fun post h => ex_xB hp (br_f ex_10 (hX _ _ (br_t rfl h))), fun post h => hY _ _ (br_f ex_m2n h)⟩
  · exact ⟨-1, a, hB, fun post h => hX _ _ (br_t rfl h), fun post h => ex_refB hY (br_f ex_m1n h)⟩

/-! sizeAt -/
theorem ex_xPl {post : Int32 → Prop} {a : Nat → Int32} : ∀ b, b ≤ 256 → post (nI (ex_pl a b)) → wX_placeOf_2 post a (b + 1) (nI b) := by
  intro b
  induction b with
  | zero =>
    intro _ h
    have c : nI 0 ≤ 0 := by rw [nI_0]; exact Int32.le_refl _
    exact br_t c h
  | succ b ih =>
    intro hb h
    refine br_f (nI_nle (by omega) (by omega)) ?_
    rw [nI_pred]
    refine ⟨vp_in_nI (by omega) (by omega), ?_⟩
    by_cases z : a b = 0
    · rw [ex_pl_t z] at h
      exact br_t (ex_z (by omega) z) (nm_r (ex_m1 b) (ih (by omega) h))
    · rw [ex_pl_f z] at h
      exact br_f (ex_nz (by omega) z) h
theorem ex_ySl1 {post : Int32 → Prop} {a : Nat → Int32} {q t : Nat} (hq : q < 256) (hz : a q = 0) : ∀ d j f, j + d = 256 → f ≤ 256 → (f ≤ d ∨ f = t) → ex_pl a f = t → wpY_run post a (nI t) → wY_sizeAt_14 post (nI q) a (d + 1) (nI f) (nI j) := by
  intro d
  induction d with
  | zero =>
    intro j f hj hf ho ht h
    obtain rfl : j = 256 := by omega
    have e : f = t := by
      rcases ho with l | l
      · obtain rfl : f = 0 := by omega
        exact ht
      · exact l
    subst e
    exact br_t ex_ge256 h
  | succ d ih =>
    intro j f hj hf ho ht h
    have hl : j < 256 := by omega
    refine br_f (ex_lt256 hl) ?_
    cases f with
    | zero =>
      have c : nI 0 ≤ 0 := by rw [nI_0]; exact Int32.le_refl _
      exact br_t c (nm_r (nI_1 j) (ih (j + 1) 0 (by omega) hf (Or.inl (Nat.zero_le _)) ht h))
    | succ g =>
      refine br_f (nI_nle (by omega) (by omega)) ⟨vp_in_nI hq (by omega), br_t (ex_z (by omega) hz) ?_⟩
      rw [nI_pred]
      refine ⟨vp_in_nI (by omega) (by omega), ?_⟩
      by_cases z : a g = 0
      · have e := ex_pl_t z
        have e2 := ex_pl_le a g
        exact br_t (ex_z (by omega) z) (nm_r (ex_m1 g) (nm_r (nI_1 j) (ih (j + 1) g (by omega) (by omega) (by omega) (by omega) h)))
      · have e := ex_pl_f z
        exact br_f (ex_nz (by omega) z) (nm_r (nI_1 j) (ih (j + 1) (g + 1) (by omega) hf (Or.inr (by omega)) ht h))
theorem ex_ySl2 {post : Int32 → Prop} {a : Nat → Int32} {q : Nat} (hq : q < 256) (hz : ¬ a q = 0) : ∀ d j, j + d = 256 → wpY_run post a (nI q) → wY_sizeAt_14 post (nI q) a (d + 1) (nI q) (nI j) := by
  intro d
  induction d with
  | zero =>
    intro j hj h
    obtain rfl : j = 256 := by omega
    exact br_t ex_ge256 h
  | succ d ih =>
    intro j hj h
    have hl : j < 256 := by omega
    refine br_f (ex_lt256 hl) (br_c (fun _ => ?_) (fun _ => ?_))
    · exact nm_r (nI_1 j) (ih (j + 1) (by omega) h)
    · exact ⟨vp_in_nI hq (by omega), br_f (ex_nz (by omega) hz) (nm_r (nI_1 j) (ih (j + 1) (by omega) h))⟩
theorem ex_szA (a : Nat → Int32) (x : Int32) : ∃ r : Int32, (∀ post : Int32 → Prop, post r → wpX_sizeAt post a x) ∧ (∀ post : Int32 → Prop, post r → wpY_sizeAt post a x) := by
  rcases ex_blk x with ⟨q, hq, rfl⟩ | ⟨hX, hY⟩
  · have hi : vp_in (nI q) 256 := vp_in_nI hq (by omega)
    by_cases z : a q = 0
    · have hl := ex_pl_le a q
      refine ⟨nI (ex_run a (ex_pl a q)), fun post h => ?_, fun post h => ?_⟩
      · exact ex_xB hq (br_f ex_10 ⟨hi, br_t (ex_z (by omega) z) ⟨_, ex_xPl q (by omega) (ex_xR (by omega) h)⟩⟩)
      · have k : wY_sizeAt_14 post (nI q) a (256 + 1) (nI q) (nI 0) := ex_ySl1 hq z 256 0 q rfl (by omega) (Or.inl (by omega)) rfl (ex_yR (by omega) h)
        rw [nI_0] at k
        exact ex_yBB hq (br_t rfl ⟨_, k⟩)
    · refine ⟨0, fun post h => ?_, fun post h => ?_⟩
      · exact ex_xB hq (br_f ex_10 ⟨hi, br_f (ex_nz (by omega) z) h⟩)
      · have k : wY_sizeAt_14 post (nI q) a (256 + 1) (nI q) (nI 0) := ex_ySl2 hq z 256 0 rfl (ex_yR (by omega) (by rw [ex_run_0 z]; exact h))
        rw [nI_0] at k
        exact ex_yBB hq (br_t rfl ⟨_, k⟩)
  · exact ⟨-1, fun post h => hX _ _ (br_t rfl h), fun post h => hY _ _ (br_f ex_10 h)⟩

/-! give -/
theorem ex_gv (a : Nat → Int32) {p n : Nat} (hn : p + n ≤ 256) : ∀ d j, j + d = p + n →
    ((∀ post : Int32 → Prop, post 1 → wX_anyIs_3 post (nI p) (nI n) 0 a (d + 1) (nI j)) ∧ (∀ post : Int32 → SY → Prop, post (-5) a → wY_give_16 post (nI p) (nI n) a (d + 1) (nI j))) ∨
    ((∀ post : Int32 → Prop, post 0 → wX_anyIs_3 post (nI p) (nI n) 0 a (d + 1) (nI j)) ∧ (∀ post : Int32 → SY → Prop, wpY_mark (fun u => wpY_sizeAt (fun r => post r u) u (nI p)) a (nI p) (nI n) 0 → wY_give_16 post (nI p) (nI n) a (d + 1) (nI j))) := by
  intro d
  induction d with
  | zero =>
    intro j hj
    have c : nI p + nI n ≤ nI j := by rw [nI_add]; exact nI_le (by omega) (by omega)
    exact Or.inr ⟨fun _ h => br_t c h, fun _ h => br_t c h⟩
  | succ d ih =>
    intro j hj
    have c : ¬ nI p + nI n ≤ nI j := by rw [nI_add]; exact nI_ge (by omega) (by omega)
    have hi : vp_in (nI j) 256 := vp_in_nI (by omega) (by omega)
    by_cases z : a j = 0
    · exact Or.inl ⟨fun _ h => br_f c ⟨hi, br_t (ex_z (by omega) z) h⟩, fun _ h => br_f c ⟨hi, br_t (ex_z (by omega) z) h⟩⟩
    · have z' : ¬ a (nI j).toNatClampNeg = 0 := ex_nz (by omega) z
      rcases ih (j + 1) (by omega) with ⟨hX, hY⟩ | ⟨hX, hY⟩
      · exact Or.inl ⟨fun post h => br_f c ⟨hi, br_f z' (nm_r (nI_1 j) (hX post h))⟩, fun post h => br_f c ⟨hi, br_f z' (nm_r (nI_1 j) (hY post h))⟩⟩
      · exact Or.inr ⟨fun post h => br_f c ⟨hi, br_f z' (nm_r (nI_1 j) (hX post h))⟩, fun post h => br_f c ⟨hi, br_f z' (nm_r (nI_1 j) (hY post h))⟩⟩
theorem ex_gvA (a : Nat → Int32) (hB : ex_B a) (y x : Int32) : ∃ (r : Int32) (a1 : Nat → Int32), ex_B a1 ∧ (∀ post : Int32 → SX → Prop, post r a1 → wpX_give post a y x) ∧ (∀ post : Int32 → SY → Prop, post r a1 → wpY_give post a y x) := by
  rcases ex_blk y with ⟨p, hp, rfl⟩ | ⟨hX, hY⟩
  · rcases ex_ref hp x with ⟨n, h1, h2, rfl, hX, hY⟩ | ⟨hX, hY⟩
    · rcases ex_gv a h2 n p rfl with ⟨kX, kY⟩ | ⟨kX, kY⟩
      · exact ⟨-5, a, hB, fun post h => ex_xB hp (br_f ex_10 (hX _ _ (br_f ex_10 ⟨_, kX _ (br_f ex_10 h)⟩))), fun post h => hY _ _ (br_t (Int32.le_refl _) ⟨_, kY post h⟩)⟩
      · obtain ⟨r, sX, sY⟩ := ex_szA (ex_st 0 n p a) (nI p)
        exact ⟨r, ex_st 0 n p a, ex_B_st (Or.inl rfl) _ _ _ hB, fun post h => ex_xB hp (br_f ex_10 (hX _ _ (br_f ex_10 ⟨_, kX _ (br_t rfl (ex_xS ex_vb0 h2 (sX _ h)))⟩))), fun post h => hY _ _ (br_t (Int32.le_refl _) ⟨_, kY post (ex_yS ex_vb0 h2 (sY _ h))⟩)⟩
    · exact ⟨-2, a, hB, fun post h => ex_xB hp (br_f ex_10 (hX _ _ (br_t rfl h))), fun post h => hY _ _ (br_f ex_m2n h)⟩
  · exact ⟨-1, a, hB, fun post h => hX _ _ (br_t rfl h), fun post h => ex_refB hY (br_f ex_m1n h)⟩
end EXF
