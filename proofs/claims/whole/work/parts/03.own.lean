section EXC
/-! the private methods of both sides, each with a general post -/
theorem ex_lt256 {j : Nat} (h : j < 256) : ¬ (256 : Int32) ≤ nI j := by rw [← ex_256]; exact nI_ge h (by omega)
theorem ex_ge256 : (256 : Int32) ≤ nI 256 := by rw [ex_256]; exact Int32.le_refl _
theorem ex_le255 {j : Nat} (h : j < 256) : nI j ≤ (255 : Int32) := by rw [← ex_255]; exact nI_le (by omega) (by omega)
theorem ex_10 : ¬ (1 : Int32) = 0 := by decide
theorem ex_cl (a : Nat → Int32) {j : Nat} (h : j ≤ 256) : a (nI j).toNatClampNeg = a j := by rw [nI_clamp (by omega)]
theorem ex_z {a : Nat → Int32} {j : Nat} {v : Int32} (h : j ≤ 256) (z : a j = v) : a (nI j).toNatClampNeg = v := by rw [ex_cl a h]; exact z
theorem ex_nz {a : Nat → Int32} {j : Nat} {v : Int32} (h : j ≤ 256) (z : ¬ a j = v) : ¬ a (nI j).toNatClampNeg = v := by rw [ex_cl a h]; exact z

theorem ex_plc {post : Int32 → Prop} {a : Nat → Int32} {j : Nat} (hj : j < 256) (ht : ex_bg a j → post 1) (hf : ¬ ex_bg a j → post 0) :
    (((a (nI j).toNatClampNeg) = 0 → (((nI j = 0 → (post 1)) ∧ (¬ nI j = 0 → (vp_in (nI j - 1) 256 ∧ ((((a (nI j - 1).toNatClampNeg) = 0 → (post 0)) ∧ (¬ (a (nI j - 1).toNatClampNeg) = 0 → (post 1))))))))) ∧ (¬ (a (nI j).toNatClampNeg) = 0 → (post 0))) := by
  by_cases z : a j = 0
  · refine br_t (ex_z (by omega) z) ?_
    cases j with
    | zero => exact br_t nI_0 (ht ⟨z, Or.inl rfl⟩)
    | succ j =>
      have h0 : ¬ nI (j + 1) = 0 := nI_ne0 (by omega) (by omega)
      refine br_f h0 ?_
      rw [nI_pred]
      refine ⟨vp_in_nI (by omega) (by omega), ?_⟩
      by_cases y : a j = 0
      · refine br_t (ex_z (by omega) y) (hf ?_)
        intro h
        rcases h.2 with e | e
        · omega
        · exact e y
      · exact br_f (ex_nz (by omega) y) (ht ⟨z, Or.inr y⟩)
  · exact br_f (ex_nz (by omega) z) (hf (fun h => z h.1))
theorem ex_xP {post : Int32 → Prop} {a : Nat → Int32} {j : Nat} (hj : j < 256) (ht : ex_bg a j → post 1) (hf : ¬ ex_bg a j → post 0) : wpX_isPlace post a (nI j) :=
  ⟨vp_in_nI hj (by omega), ex_plc hj ht hf⟩
theorem ex_yBB {post : Int32 → Prop} {a : Nat → Int32} {j : Nat} (hj : j < 256) (h : post 0) : wpY_badBlock post a (nI j) :=
  br_f (nI_pos (by omega)) (br_t (ex_le255 hj) h)
theorem ex_yP {post : Int32 → Prop} {a : Nat → Int32} {j : Nat} (hj : j < 256) (ht : ex_bg a j → post 1) (hf : ¬ ex_bg a j → post 0) : wpY_begins post a (nI j) := by
  unfold wpY_begins
  refine ex_yBB hj ?_
  exact br_t rfl ⟨vp_in_nI hj (by omega), ex_plc hj ht hf⟩
theorem ex_xP1 {post : Int32 → Prop} {a : Nat → Int32} {j : Nat} (hj : j < 256) (hb : ex_bg a j) (h : post 1) : wpX_isPlace post a (nI j) :=
  ex_xP hj (fun _ => h) (fun n => absurd hb n)
theorem ex_xP0 {post : Int32 → Prop} {a : Nat → Int32} {j : Nat} (hj : j < 256) (hb : ¬ ex_bg a j) (h : post 0) : wpX_isPlace post a (nI j) :=
  ex_xP hj (fun n => absurd n hb) (fun _ => h)
theorem ex_yP1 {post : Int32 → Prop} {a : Nat → Int32} {j : Nat} (hj : j < 256) (hb : ex_bg a j) (h : post 1) : wpY_begins post a (nI j) :=
  ex_yP hj (fun _ => h) (fun n => absurd hb n)
theorem ex_yP0 {post : Int32 → Prop} {a : Nat → Int32} {j : Nat} (hj : j < 256) (hb : ¬ ex_bg a j) (h : post 0) : wpY_begins post a (nI j) :=
  ex_yP hj (fun n => absurd n hb) (fun _ => h)

theorem ex_xRl {post : Int32 → Prop} {a : Nat → Int32} {p : Nat} : ∀ d j, j + d = 256 → p ≤ j → post (nI (j + ex_run a j - p)) → wX_sizeFrom_2 post (nI p) a (d + 1) (nI j) := by
  intro d
  induction d with
  | zero =>
    intro j hj hp h
    obtain rfl : j = 256 := by omega
    refine br_t ex_ge256 ?_
    rw [ex_sub hp]
    rw [ex_run_end (Nat.le_refl _)] at h
    exact h
  | succ d ih =>
    intro j hj hp h
    refine br_f (ex_lt256 (by omega)) ⟨vp_in_nI (by omega) (by omega), ?_⟩
    by_cases z : a j = 0
    · refine br_t (ex_z (by omega) z) (nm_r (nI_1 j) (ih (j + 1) (by omega) (by omega) ?_))
      have e : j + 1 + ex_run a (j + 1) - p = j + ex_run a j - p := by
        rw [ex_run_s (by omega) z]; omega
      rw [e]; exact h
    · refine br_f (ex_nz (by omega) z) ?_
      rw [ex_sub hp]
      rw [ex_run_0 z] at h
      exact h
theorem ex_xR {post : Int32 → Prop} {a : Nat → Int32} {j : Nat} (hj : j ≤ 256) (h : post (nI (ex_run a j))) : wpX_sizeFrom post a (nI j) := by
  refine ⟨256 - j + 1, ex_xRl (256 - j) j (by omega) (Nat.le_refl _) ?_⟩
  rw [Nat.add_sub_cancel_left]; exact h
theorem ex_yRl {post : Int32 → Prop} {a : Nat → Int32} : ∀ d j c, j + d = 256 → post (nI (c + ex_run a j)) → wY_run_4 post a (d + 1) (nI c) (nI j) := by
  intro d
  induction d with
  | zero =>
    intro j c hj h
    obtain rfl : j = 256 := by omega
    refine br_t ex_ge256 ?_
    rw [ex_run_end (Nat.le_refl _)] at h
    exact h
  | succ d ih =>
    intro j c hj h
    refine br_f (ex_lt256 (by omega)) ⟨vp_in_nI (by omega) (by omega), ?_⟩
    by_cases z : a j = 0
    · refine br_t (ex_z (by omega) z) (nm_r (nI_1 c) (nm_r (nI_1 j) (ih (j + 1) (c + 1) (by omega) ?_)))
      have e : c + 1 + ex_run a (j + 1) = c + ex_run a j := by
        rw [ex_run_s (by omega) z]; omega
      rw [e]; exact h
    · refine br_f (ex_nz (by omega) z) ?_
      rw [ex_run_0 z] at h
      exact h
theorem ex_yR {post : Int32 → Prop} {a : Nat → Int32} {j : Nat} (hj : j ≤ 256) (h : post (nI (ex_run a j))) : wpY_run post a (nI j) := by
  have e : wY_run_4 post a (256 - j + 1) (nI 0) (nI j) := ex_yRl (256 - j) j 0 (by omega) (by rw [Nat.zero_add]; exact h)
  rw [nI_0] at e
  exact ⟨256 - j + 1, e⟩

theorem ex_xSl {post : SX → Prop} {p n : Nat} {v : Int32} (hv : vp_nar .boolean v = v) (hn : p + n ≤ 256) : ∀ d j a, j + d = p + n → post (ex_st v d j a) → wX_setAll_3 post (nI p) (nI n) v (d + 1) (nI j) a := by
  intro d
  induction d with
  | zero =>
    intro j a hj h
    have c : nI p + nI n ≤ nI j := by rw [nI_add]; exact nI_le (by omega) (by omega)
    exact br_t c h
  | succ d ih =>
    intro j a hj h
    have c : ¬ nI p + nI n ≤ nI j := by rw [nI_add]; exact nI_ge (by omega) (by omega)
    have e : upd a (nI j).toNatClampNeg (vp_nar .boolean v) = upd a j v := by rw [nI_clamp (by omega), hv]
    exact br_f c ⟨vp_in_nI (by omega) (by omega), nm_r e (nm_r (nI_1 j) (ih (j + 1) _ (by omega) h))⟩
theorem ex_xS {post : SX → Prop} {p n : Nat} {v : Int32} {a : Nat → Int32} (hv : vp_nar .boolean v = v) (hn : p + n ≤ 256) (h : post (ex_st v n p a)) : wpX_setAll post a (nI p) (nI n) v :=
  ⟨n + 1, ex_xSl hv hn n p a rfl h⟩
theorem ex_ySl {post : SY → Prop} {p n : Nat} {v : Int32} (hv : vp_nar .boolean v = v) (hn : p + n ≤ 256) : ∀ d j a, j + d = p + n → post (ex_st v d j a) → wY_mark_3 post (nI p) (nI n) v (d + 1) (nI j) a := by
  intro d
  induction d with
  | zero =>
    intro j a hj h
    have c : nI p + nI n ≤ nI j := by rw [nI_add]; exact nI_le (by omega) (by omega)
    exact br_t c h
  | succ d ih =>
    intro j a hj h
    have c : ¬ nI p + nI n ≤ nI j := by rw [nI_add]; exact nI_ge (by omega) (by omega)
    have e : upd a (nI j).toNatClampNeg (vp_nar .boolean v) = upd a j v := by rw [nI_clamp (by omega), hv]
    exact br_f c (br_f (nI_pos (by omega)) (br_f (ex_lt256 (by omega)) ⟨vp_in_nI (by omega) (by omega), nm_r e (nm_r (nI_1 j) (ih (j + 1) _ (by omega) h))⟩))
theorem ex_yS {post : SY → Prop} {p n : Nat} {v : Int32} {a : Nat → Int32} (hv : vp_nar .boolean v = v) (hn : p + n ≤ 256) (h : post (ex_st v n p a)) : wpY_mark post a (nI p) (nI n) v :=
  ⟨n + 1, ex_ySl hv hn n p a rfl h⟩

/-! an argument: a size, a block, or neither -/
theorem ex_size (x : Int32) : (∃ n : Nat, 1 ≤ n ∧ n ≤ 256 ∧ x = nI n) ∨
    ((∀ (post : Int32 → Prop) (a : Nat → Int32), post 0 → wpX_isSize post a x) ∧ (∀ (post : Int32 → Prop) (a : Nat → Int32), post 1 → wpY_badSize post a x)) := by
  by_cases h1 : x < 1
  · exact Or.inr ⟨fun _ _ h => br_t h1 h, fun _ _ h => br_t h1 h⟩
  · by_cases h2 : x ≤ 256
    · left
      have h0 : ¬ x < 0 := fun h => h1 (Int32.lt_trans h (by decide))
      obtain ⟨n, hn, rfl⟩ := nI_of h0
      rw [← ex_256, nI_leI hn (by omega)] at h2
      rw [← ex_one, nI_ltI hn (by omega)] at h1
      exact ⟨n, by omega, h2, rfl⟩
    · exact Or.inr ⟨fun _ _ h => br_f h1 (br_t (Int32.not_le.mp h2) h), fun _ _ h => br_f h1 (br_f h2 h)⟩
theorem ex_xSz {post : Int32 → Prop} {a : Nat → Int32} {n : Nat} (h1 : 1 ≤ n) (h2 : n ≤ 256) (h : post 1) : wpX_isSize post a (nI n) := by
  have c1 : ¬ nI n < (1 : Int32) := by rw [← ex_one]; exact nI_nlt h1 (by omega)
  have c2 : ¬ (256 : Int32) < nI n := by rw [← ex_256]; exact nI_nlt h2 (by omega)
  exact br_f c1 (br_f c2 h)
theorem ex_ySz {post : Int32 → Prop} {a : Nat → Int32} {n : Nat} (h1 : 1 ≤ n) (h2 : n ≤ 256) (h : post 0) : wpY_badSize post a (nI n) := by
  have c1 : ¬ nI n < (1 : Int32) := by rw [← ex_one]; exact nI_nlt h1 (by omega)
  have c2 : nI n ≤ (256 : Int32) := by rw [← ex_256]; exact nI_le h2 (by omega)
  exact br_f c1 (br_t c2 h)
theorem ex_blk (x : Int32) : (∃ b : Nat, b < 256 ∧ x = nI b) ∨
    ((∀ (post : Int32 → Prop) (a : Nat → Int32), post 0 → wpX_isBlock post a x) ∧ (∀ (post : Int32 → Prop) (a : Nat → Int32), post 1 → wpY_badBlock post a x)) := by
  by_cases h1 : x < 0
  · exact Or.inr ⟨fun _ _ h => br_t h1 h, fun _ _ h => br_t h1 h⟩
  · obtain ⟨b, hb, rfl⟩ := nI_of h1
    by_cases h2 : b < 256
    · exact Or.inl ⟨b, h2, rfl⟩
    · have c1 : (256 : Int32) ≤ nI b := by rw [← ex_256]; exact nI_le (by omega) hb
      have c2 : ¬ nI b ≤ (255 : Int32) := by rw [← ex_255]; exact nI_ge (by omega) hb
      exact Or.inr ⟨fun _ _ h => br_f h1 (br_t c1 h), fun _ _ h => br_f h1 (br_f c2 h)⟩
theorem ex_xB {post : Int32 → Prop} {a : Nat → Int32} {b : Nat} (hb : b < 256) (h : post 1) : wpX_isBlock post a (nI b) :=
  br_f (nI_pos (by omega)) (br_f (ex_lt256 hb) h)
end EXC
