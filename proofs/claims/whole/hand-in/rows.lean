section
section EXA
/-! A: numbers -/
theorem ex_us {f : Nat → Int32} {k : Nat} {x : Int32} : upd f k x k = x := if_pos rfl
theorem ex_un {f : Nat → Int32} {k j : Nat} {x : Int32} (h : j ≠ k) : upd f k x j = f j := if_neg h
theorem ex_256 : nI 256 = 256 := by decide +kernel
theorem ex_255 : nI 255 = 255 := by decide +kernel
theorem ex_one : nI 1 = 1 := by decide +kernel
theorem ex_vb0 : vp_nar .boolean 0 = 0 := by decide
theorem ex_vb1 : vp_nar .boolean 1 = 1 := by decide
theorem ex_sub {a b : Nat} (h : b ≤ a) : nI a - nI b = nI (a - b) := by
  have e : nI a = nI (a - b) + nI b := by rw [nI_add]; congr 1; omega
  rw [e, Int32.add_sub_cancel]
theorem ex_m1 (n : Nat) : nI (n + 1) + (-1) = nI n := by
  rw [← nI_1, Int32.add_assoc, show (1 : Int32) + (-1) = 0 from rfl, Int32.add_zero]
theorem ex_dec {n : Nat} (h : 0 < n) : nI n + (-1) = nI (n - 1) := by
  obtain ⟨m, rfl⟩ : ∃ m, n = m + 1 := ⟨n - 1, by omega⟩
  exact ex_m1 m
theorem ex_dec' {n : Nat} (h : 0 < n) : nI n - 1 = nI (n - 1) := by
  obtain ⟨m, rfl⟩ : ∃ m, n = m + 1 := ⟨n - 1, by omega⟩
  exact nI_pred m
theorem ex_ne6 {a : Nat} (h : a < 2 ^ 31) : ¬ nI a = -6 := by
  intro e
  have := nI_pos (n := a) h
  rw [e] at this
  exact this (by decide)

/-! B: the free run from a block -/
def ex_rn (a : Nat → Int32) : Nat → Nat → Nat
  | 0, _ => 0
  | d + 1, b => if a b = 0 then ex_rn a d (b + 1) + 1 else 0
def ex_run (a : Nat → Int32) (b : Nat) : Nat := ex_rn a (256 - b) b
def ex_bg (a : Nat → Int32) (b : Nat) : Prop := a b = 0 ∧ (b = 0 ∨ ¬ a (b - 1) = 0)
theorem ex_rn_le (a : Nat → Int32) : ∀ d b, ex_rn a d b ≤ d := by
  intro d
  induction d with
  | zero => intro b; exact Nat.le_refl 0
  | succ d ih =>
    intro b
    show (if a b = 0 then ex_rn a d (b + 1) + 1 else 0) ≤ d + 1
    have := ih (b + 1)
    split <;> omega
theorem ex_run_le (a : Nat → Int32) (b : Nat) : ex_run a b ≤ 256 - b := ex_rn_le a _ b
theorem ex_run_end {a : Nat → Int32} {b : Nat} (h : 256 ≤ b) : ex_run a b = 0 := by
  have := ex_run_le a b
  omega
theorem ex_run_s {a : Nat → Int32} {b : Nat} (hb : b < 256) (h : a b = 0) : ex_run a b = ex_run a (b + 1) + 1 := by
  unfold ex_run
  obtain ⟨d, hd⟩ : ∃ d, 256 - b = d + 1 := ⟨255 - b, by omega⟩
  have e : 256 - (b + 1) = d := by omega
  rw [hd, e]
  exact if_pos h
theorem ex_run_0 {a : Nat → Int32} {b : Nat} (h : ¬ a b = 0) : ex_run a b = 0 := by
  unfold ex_run
  cases e : 256 - b with
  | zero => rfl
  | succ d => exact if_neg h
theorem ex_run_pos {a : Nat → Int32} {b : Nat} (hb : b < 256) (h : a b = 0) : 0 < ex_run a b := by
  rw [ex_run_s hb h]; omega
theorem ex_top {a : Nat → Int32} : ∀ b, b < 256 → a b = 0 → ∃ q, q ≤ b ∧ ex_bg a q ∧ ex_run a b ≤ ex_run a q := by
  intro b
  induction b with
  | zero => intro _ h; exact ⟨0, Nat.le_refl 0, ⟨h, Or.inl rfl⟩, Nat.le_refl _⟩
  | succ b ih =>
    intro hb h
    by_cases z : a b = 0
    · obtain ⟨q, h1, h2, h3⟩ := ih (by omega) z
      refine ⟨q, by omega, h2, ?_⟩
      have := ex_run_s (a := a) (b := b) (by omega) z
      omega
    · exact ⟨b + 1, Nat.le_refl _, ⟨h, Or.inr z⟩, Nat.le_refl _⟩

/-! C: stores -/
def ex_st (v : Int32) : Nat → Nat → (Nat → Int32) → Nat → Int32
  | 0, _, a => a
  | d + 1, b, a => ex_st v d (b + 1) (upd a b v)
def ex_B (a : Nat → Int32) : Prop := ∀ j, a j = 0 ∨ a j = 1
theorem ex_B_upd {a : Nat → Int32} {v : Int32} {k : Nat} (hv : v = 0 ∨ v = 1) (h : ex_B a) : ex_B (upd a k v) := by
  intro j
  by_cases e : j = k
  · rw [e, ex_us]; exact hv
  · rw [ex_un e]; exact h j
theorem ex_B_st {v : Int32} (hv : v = 0 ∨ v = 1) : ∀ d b a, ex_B a → ex_B (ex_st v d b a) := by
  intro d
  induction d with
  | zero => intro b a h; exact h
  | succ d ih => intro b a h; exact ih _ _ (ex_B_upd hv h)
theorem ex_upd0 (b : Nat) : upd (fun _ => 0) b 0 = fun _ => 0 := by
  funext j
  by_cases e : j = b
  · rw [e, ex_us]
  · rw [ex_un e]
theorem ex_st0 : ∀ d b, ex_st 0 d b (fun _ => 0) = fun _ => 0 := by
  intro d
  induction d with
  | zero => intro b; rfl
  | succ d ih =>
    intro b
    show ex_st 0 d (b + 1) (upd (fun _ => 0) b 0) = _
    rw [ex_upd0]; exact ih _

/-! D: the place below a free block -/
def ex_pl (a : Nat → Int32) : Nat → Nat
  | 0 => 0
  | b + 1 => if a b = 0 then ex_pl a b else b + 1
theorem ex_pl_le (a : Nat → Int32) : ∀ b, ex_pl a b ≤ b := by
  intro b
  induction b with
  | zero => exact Nat.le_refl 0
  | succ b ih =>
    show (if a b = 0 then ex_pl a b else b + 1) ≤ b + 1
    split <;> omega
theorem ex_pl_t {a : Nat → Int32} {b : Nat} (h : a b = 0) : ex_pl a (b + 1) = ex_pl a b := if_pos h
theorem ex_pl_f {a : Nat → Int32} {b : Nat} (h : ¬ a b = 0) : ex_pl a (b + 1) = b + 1 := if_neg h
end EXA
end
section
section EXB
/-! the largest run, the first place that has it -/
def ex_max (a : Nat → Int32) (m : Nat) : Prop := (∀ q, q < 256 → ex_run a q ≤ m) ∧ (m = 0 ∨ ∃ q, q < 256 ∧ ex_run a q = m)
def ex_non (a : Nat → Int32) : Prop := ∀ q, q < 256 → ¬ ex_bg a q
def ex_fst (a : Nat → Int32) (p : Nat) : Prop := p < 256 ∧ ex_bg a p ∧ (∀ q, q < 256 → ex_bg a q → ex_run a q ≤ ex_run a p) ∧ (∀ q, q < p → ex_bg a q → ex_run a q < ex_run a p)
theorem ex_non_all {a : Nat → Int32} (h : ex_non a) : ∀ b, b < 256 → ¬ a b = 0 := by
  intro b hb z
  obtain ⟨q, h1, h2, _⟩ := ex_top b hb z
  exact h q (by omega) h2
theorem ex_max_0 {a : Nat → Int32} {m : Nat} (h : ex_non a) (hm : ex_max a m) : m = 0 := by
  rcases hm.2 with e | ⟨q, hq, e⟩
  · exact e
  · rw [ex_run_0 (ex_non_all h q hq)] at e
    exact e.symm
theorem ex_max_fst {a : Nat → Int32} {m p : Nat} (h : ex_fst a p) (hm : ex_max a m) : m = ex_run a p := by
  have h1 := hm.1 p h.1
  rcases hm.2 with e | ⟨q, hq, e⟩
  · omega
  · by_cases z : a q = 0
    · obtain ⟨t, t1, t2, t3⟩ := ex_top q hq z
      have := h.2.2.1 t (by omega) t2
      omega
    · rw [ex_run_0 z] at e
      omega
/-- what the scan downwards for a run of m gives -/
def ex_dn (a : Nat → Int32) (m j : Nat) (x : Int32) : Prop :=
  (x = -1 ∧ ∀ q, j ≤ q → q < 256 → ex_bg a q → ¬ ex_run a q = m) ∨
  ∃ p, x = nI p ∧ j ≤ p ∧ p < 256 ∧ ex_bg a p ∧ ex_run a p = m ∧ ∀ q, j ≤ q → q < p → ex_bg a q → ¬ ex_run a q = m
theorem ex_dn_end (a : Nat → Int32) (m : Nat) : ex_dn a m 256 (-1) := Or.inl ⟨rfl, fun q h1 h2 => absurd h2 (by omega)⟩
theorem ex_dn_hit {a : Nat → Int32} {m j : Nat} (hj : j < 256) (hb : ex_bg a j) (hr : ex_run a j = m) : ex_dn a m j (nI j) :=
  Or.inr ⟨j, rfl, Nat.le_refl _, hj, hb, hr, fun q h1 h2 => absurd h2 (by omega)⟩
theorem ex_dn_miss {a : Nat → Int32} {m j : Nat} {x : Int32} (h : ex_dn a m (j + 1) x) (hn : ex_bg a j → ¬ ex_run a j = m) : ex_dn a m j x := by
  rcases h with ⟨e, h⟩ | ⟨p, e, h1, h2, h3, h4, h5⟩
  · refine Or.inl ⟨e, fun q hq h6 h7 => ?_⟩
    by_cases eq : q = j
    · rw [eq] at h7 ⊢; exact hn h7
    · exact h q (by omega) h6 h7
  · refine Or.inr ⟨p, e, by omega, h2, h3, h4, fun q hq h6 h7 => ?_⟩
    by_cases eq : q = j
    · rw [eq] at h7 ⊢; exact hn h7
    · exact h5 q (by omega) h6 h7
theorem ex_dn_non {a : Nat → Int32} {m : Nat} {x : Int32} (h : ex_non a) (hd : ex_dn a m 0 x) : x = -1 := by
  rcases hd with ⟨e, _⟩ | ⟨p, _, _, h2, h3, _⟩
  · exact e
  · exact absurd h3 (h p h2)
theorem ex_dn_fst {a : Nat → Int32} {p : Nat} {x : Int32} (h : ex_fst a p) (hd : ex_dn a (ex_run a p) 0 x) : x = nI p := by
  rcases hd with ⟨_, hn⟩ | ⟨q, e, _, h2, h3, h4, h5⟩
  · exact absurd rfl (hn p (Nat.zero_le _) h.1 h.2.1)
  · have h6 : q = p := by
      rcases Nat.lt_trichotomy q p with l | l | l
      · have := h.2.2.2 q l h3
        omega
      · exact l
      · exact absurd rfl (h5 p (Nat.zero_le _) l h.2.1)
    rw [e, h6]
end EXB
end
section
section EXC
/-! the private methods of both sides, each with a general post -/
theorem ex_lt256 {j : Nat} (h : j < 256) : ¬ (256 : Int32) ≤ nI j := by rw [← ex_256]; exact nI_ge h (by omega)
theorem ex_ge256 : (256 : Int32) ≤ nI 256 := by rw [ex_256]; exact Int32.le_refl _
theorem ex_le255 {j : Nat} (h : j < 256) : nI j ≤ (255 : Int32) := by rw [← ex_255]; exact nI_le (by omega) (by omega)
theorem ex_10 : ¬ (1 : Int32) = 0 := by decide
theorem ex_cl (a : Nat → Int32) {j : Nat} (h : j ≤ 256) : a (nI j).toNatClampNeg = a j := by rw [nI_clamp (by omega)]
theorem ex_z {a : Nat → Int32} {j : Nat} {v : Int32} (h : j ≤ 256) (z : a j = v) : a (nI j).toNatClampNeg = v := by rw [ex_cl a h]; exact z
theorem ex_nz {a : Nat → Int32} {j : Nat} {v : Int32} (h : j ≤ 256) (z : ¬ a j = v) : ¬ a (nI j).toNatClampNeg = v := by rw [ex_cl a h]; exact z

theorem ex_plc {post : Int32 → Prop} {a : Nat → Int32} {j : Nat} (hj : j < 256) (ht : ex_bg a j → post 1) (hf : ¬ ex_bg a j → post 0) :
    (((a (nI j).toNatClampNeg) = 0 → (((nI j = 0 → (post 1)) ∧ (¬ nI j = 0 → (vp_in (nI j - 1) 256 ∧ ((((a (nI j - 1).toNatClampNeg) = 0 → (post 0)) ∧ (¬ (a (nI j - 1).toNatClampNeg) = 0 → (post 1))))))))) ∧ (¬ (a (nI j).toNatClampNeg) = 0 → (post 0))) := by
  by_cases z : a j = 0
  · refine br_t (ex_z (by omega) z) ?_
    cases j with
    | zero => exact br_t nI_0 (ht ⟨z, Or.inl rfl⟩)
    | succ j =>
      have h0 : ¬ nI (j + 1) = 0 := nI_ne0 (by omega) (by omega)
      refine br_f h0 ?_
      rw [nI_pred]
      refine ⟨vp_in_nI (by omega) (by omega), ?_⟩
      by_cases y : a j = 0
      · refine br_t (ex_z (by omega) y) (hf ?_)
        intro h
        rcases h.2 with e | e
        · omega
        · exact e y
      · exact br_f (ex_nz (by omega) y) (ht ⟨z, Or.inr y⟩)
  · exact br_f (ex_nz (by omega) z) (hf (fun h => z h.1))
theorem ex_xP {post : Int32 → Prop} {a : Nat → Int32} {j : Nat} (hj : j < 256) (ht : ex_bg a j → post 1) (hf : ¬ ex_bg a j → post 0) : wpX_isPlace post a (nI j) :=
  ⟨vp_in_nI hj (by omega), ex_plc hj ht hf⟩
theorem ex_yBB {post : Int32 → Prop} {a : Nat → Int32} {j : Nat} (hj : j < 256) (h : post 0) : wpY_badBlock post a (nI j) :=
  br_f (nI_pos (by omega)) (br_t (ex_le255 hj) h)
theorem ex_yP {post : Int32 → Prop} {a : Nat → Int32} {j : Nat} (hj : j < 256) (ht : ex_bg a j → post 1) (hf : ¬ ex_bg a j → post 0) : wpY_begins post a (nI j) := by
  unfold wpY_begins
  refine ex_yBB hj ?_
  exact br_t rfl ⟨vp_in_nI hj (by omega), ex_plc hj ht hf⟩
theorem ex_xP1 {post : Int32 → Prop} {a : Nat → Int32} {j : Nat} (hj : j < 256) (hb : ex_bg a j) (h : post 1) : wpX_isPlace post a (nI j) :=
  ex_xP hj (fun _ => h) (fun n => absurd hb n)
theorem ex_xP0 {post : Int32 → Prop} {a : Nat → Int32} {j : Nat} (hj : j < 256) (hb : ¬ ex_bg a j) (h : post 0) : wpX_isPlace post a (nI j) :=
  ex_xP hj (fun n => absurd n hb) (fun _ => h)
theorem ex_yP1 {post : Int32 → Prop} {a : Nat → Int32} {j : Nat} (hj : j < 256) (hb : ex_bg a j) (h : post 1) : wpY_begins post a (nI j) :=
  ex_yP hj (fun _ => h) (fun n => absurd hb n)
theorem ex_yP0 {post : Int32 → Prop} {a : Nat → Int32} {j : Nat} (hj : j < 256) (hb : ¬ ex_bg a j) (h : post 0) : wpY_begins post a (nI j) :=
  ex_yP hj (fun n => absurd n hb) (fun _ => h)

theorem ex_xRl {post : Int32 → Prop} {a : Nat → Int32} {p : Nat} : ∀ d j, j + d = 256 → p ≤ j → post (nI (j + ex_run a j - p)) → wX_sizeFrom_2 post (nI p) a (d + 1) (nI j) := by
  intro d
  induction d with
  | zero =>
    intro j hj hp h
    obtain rfl : j = 256 := by omega
    refine br_t ex_ge256 ?_
    rw [ex_sub hp]
    rw [ex_run_end (Nat.le_refl _)] at h
    exact h
  | succ d ih =>
    intro j hj hp h
    refine br_f (ex_lt256 (by omega)) ⟨vp_in_nI (by omega) (by omega), ?_⟩
    by_cases z : a j = 0
    · refine br_t (ex_z (by omega) z) (nm_r (nI_1 j) (ih (j + 1) (by omega) (by omega) ?_))
      have e : j + 1 + ex_run a (j + 1) - p = j + ex_run a j - p := by
        rw [ex_run_s (by omega) z]; omega
      rw [e]; exact h
    · refine br_f (ex_nz (by omega) z) ?_
      rw [ex_sub hp]
      rw [ex_run_0 z] at h
      exact h
theorem ex_xR {post : Int32 → Prop} {a : Nat → Int32} {j : Nat} (hj : j ≤ 256) (h : post (nI (ex_run a j))) : wpX_sizeFrom post a (nI j) := by
  refine ⟨256 - j + 1, ex_xRl (256 - j) j (by omega) (Nat.le_refl _) ?_⟩
  rw [Nat.add_sub_cancel_left]; exact h
theorem ex_yRl {post : Int32 → Prop} {a : Nat → Int32} : ∀ d j c, j + d = 256 → post (nI (c + ex_run a j)) → wY_run_4 post a (d + 1) (nI c) (nI j) := by
  intro d
  induction d with
  | zero =>
    intro j c hj h
    obtain rfl : j = 256 := by omega
    refine br_t ex_ge256 ?_
    rw [ex_run_end (Nat.le_refl _)] at h
    exact h
  | succ d ih =>
    intro j c hj h
    refine br_f (ex_lt256 (by omega)) ⟨vp_in_nI (by omega) (by omega), ?_⟩
    by_cases z : a j = 0
    · refine br_t (ex_z (by omega) z) (nm_r (nI_1 c) (nm_r (nI_1 j) (ih (j + 1) (c + 1) (by omega) ?_)))
      have e : c + 1 + ex_run a (j + 1) = c + ex_run a j := by
        rw [ex_run_s (by omega) z]; omega
      rw [e]; exact h
    · refine br_f (ex_nz (by omega) z) ?_
      rw [ex_run_0 z] at h
      exact h
theorem ex_yR {post : Int32 → Prop} {a : Nat → Int32} {j : Nat} (hj : j ≤ 256) (h : post (nI (ex_run a j))) : wpY_run post a (nI j) := by
  have e : wY_run_4 post a (256 - j + 1) (nI 0) (nI j) := ex_yRl (256 - j) j 0 (by omega) (by rw [Nat.zero_add]; exact h)
  rw [nI_0] at e
  exact ⟨256 - j + 1, e⟩

theorem ex_xSl {post : SX → Prop} {p n : Nat} {v : Int32} (hv : vp_nar .boolean v = v) (hn : p + n ≤ 256) : ∀ d j a, j + d = p + n → post (ex_st v d j a) → wX_setAll_3 post (nI p) (nI n) v (d + 1) (nI j) a := by
  intro d
  induction d with
  | zero =>
    intro j a hj h
    have c : nI p + nI n ≤ nI j := by rw [nI_add]; exact nI_le (by omega) (by omega)
    exact br_t c h
  | succ d ih =>
    intro j a hj h
    have c : ¬ nI p + nI n ≤ nI j := by rw [nI_add]; exact nI_ge (by omega) (by omega)
    have e : upd a (nI j).toNatClampNeg (vp_nar .boolean v) = upd a j v := by rw [nI_clamp (by omega), hv]
    exact br_f c ⟨vp_in_nI (by omega) (by omega), nm_r e (nm_r (nI_1 j) (ih (j + 1) _ (by omega) h))⟩
theorem ex_xS {post : SX → Prop} {p n : Nat} {v : Int32} {a : Nat → Int32} (hv : vp_nar .boolean v = v) (hn : p + n ≤ 256) (h : post (ex_st v n p a)) : wpX_setAll post a (nI p) (nI n) v :=
  ⟨n + 1, ex_xSl hv hn n p a rfl h⟩
theorem ex_ySl {post : SY → Prop} {p n : Nat} {v : Int32} (hv : vp_nar .boolean v = v) (hn : p + n ≤ 256) : ∀ d j a, j + d = p + n → post (ex_st v d j a) → wY_mark_3 post (nI p) (nI n) v (d + 1) (nI j) a := by
  intro d
  induction d with
  | zero =>
    intro j a hj h
    have c : nI p + nI n ≤ nI j := by rw [nI_add]; exact nI_le (by omega) (by omega)
    exact br_t c h
  | succ d ih =>
    intro j a hj h
    have c : ¬ nI p + nI n ≤ nI j := by rw [nI_add]; exact nI_ge (by omega) (by omega)
    have e : upd a (nI j).toNatClampNeg (vp_nar .boolean v) = upd a j v := by rw [nI_clamp (by omega), hv]
    exact br_f c (br_f (nI_pos (by omega)) (br_f (ex_lt256 (by omega)) ⟨vp_in_nI (by omega) (by omega), nm_r e (nm_r (nI_1 j) (ih (j + 1) _ (by omega) h))⟩))
theorem ex_yS {post : SY → Prop} {p n : Nat} {v : Int32} {a : Nat → Int32} (hv : vp_nar .boolean v = v) (hn : p + n ≤ 256) (h : post (ex_st v n p a)) : wpY_mark post a (nI p) (nI n) v :=
  ⟨n + 1, ex_ySl hv hn n p a rfl h⟩

/-! an argument: a size, a block, or neither -/
theorem ex_size (x : Int32) : (∃ n : Nat, 1 ≤ n ∧ n ≤ 256 ∧ x = nI n) ∨
    ((∀ (post : Int32 → Prop) (a : Nat → Int32), post 0 → wpX_isSize post a x) ∧ (∀ (post : Int32 → Prop) (a : Nat → Int32), post 1 → wpY_badSize post a x)) := by
  by_cases h1 : x < 1
  · exact Or.inr ⟨fun _ _ h => br_t h1 h, fun _ _ h => br_t h1 h⟩
  · by_cases h2 : x ≤ 256
    · left
      have h0 : ¬ x < 0 := fun h => h1 (Int32.lt_trans h (by decide))
      obtain ⟨n, hn, rfl⟩ := nI_of h0
      rw [← ex_256, nI_leI hn (by omega)] at h2
      rw [← ex_one, nI_ltI hn (by omega)] at h1
      exact ⟨n, by omega, h2, rfl⟩
    · exact Or.inr ⟨fun _ _ h => br_f h1 (br_t (Int32.not_le.mp h2) h), fun _ _ h => br_f h1 (br_f h2 h)⟩
theorem ex_xSz {post : Int32 → Prop} {a : Nat → Int32} {n : Nat} (h1 : 1 ≤ n) (h2 : n ≤ 256) (h : post 1) : wpX_isSize post a (nI n) := by
  have c1 : ¬ nI n < (1 : Int32) := by rw [← ex_one]; exact nI_nlt h1 (by omega)
  have c2 : ¬ (256 : Int32) < nI n := by rw [← ex_256]; exact nI_nlt h2 (by omega)
  exact br_f c1 (br_f c2 h)
theorem ex_ySz {post : Int32 → Prop} {a : Nat → Int32} {n : Nat} (h1 : 1 ≤ n) (h2 : n ≤ 256) (h : post 0) : wpY_badSize post a (nI n) := by
  have c1 : ¬ nI n < (1 : Int32) := by rw [← ex_one]; exact nI_nlt h1 (by omega)
  have c2 : nI n ≤ (256 : Int32) := by rw [← ex_256]; exact nI_le h2 (by omega)
  exact br_f c1 (br_t c2 h)
theorem ex_blk (x : Int32) : (∃ b : Nat, b < 256 ∧ x = nI b) ∨
    ((∀ (post : Int32 → Prop) (a : Nat → Int32), post 0 → wpX_isBlock post a x) ∧ (∀ (post : Int32 → Prop) (a : Nat → Int32), post 1 → wpY_badBlock post a x)) := by
  by_cases h1 : x < 0
  · exact Or.inr ⟨fun _ _ h => br_t h1 h, fun _ _ h => br_t h1 h⟩
  · obtain ⟨b, hb, rfl⟩ := nI_of h1
    by_cases h2 : b < 256
    · exact Or.inl ⟨b, h2, rfl⟩
    · have c1 : (256 : Int32) ≤ nI b := by rw [← ex_256]; exact nI_le (by omega) hb
      have c2 : ¬ nI b ≤ (255 : Int32) := by rw [← ex_255]; exact nI_ge (by omega) hb
      exact Or.inr ⟨fun _ _ h => br_f h1 (br_t c1 h), fun _ _ h => br_f h1 (br_f c2 h)⟩
theorem ex_xB {post : Int32 → Prop} {a : Nat → Int32} {b : Nat} (hb : b < 256) (h : post 1) : wpX_isBlock post a (nI b) :=
  br_f (nI_pos (by omega)) (br_f (ex_lt256 hb) h)
end EXC
end
section
section EXD
/-! scans that both sides do alike: in lockstep -/
theorem ex_cnt (a : Nat → Int32) (x : Int32) : ∀ d j c, j + d = 256 → ∃ r : Int32, (∀ post : Int32 → Prop, post r → wX_countWith_4 post x a (d + 1) c (nI j)) ∧ (∀ post : Int32 → Prop, post r → wY_atLeast_4 post x a (d + 1) c (nI j)) := by
  intro d
  induction d with
  | zero =>
    intro j c hj
    obtain rfl : j = 256 := by omega
    exact ⟨c, fun _ h => br_t ex_ge256 h, fun _ h => br_t ex_ge256 h⟩
  | succ d ih =>
    intro j c hj
    have hl : j < 256 := by omega
    have hl' : j ≤ 256 := by omega
    by_cases hb : ex_bg a j
    · by_cases hs : nI (ex_run a j) < x
      · obtain ⟨r, hX, hY⟩ := ih (j + 1) c (by omega)
        exact ⟨r, fun post h => br_f (ex_lt256 hl) (ex_xP1 hl hb (br_f ex_10 (ex_xR hl' (br_t hs (nm_r (nI_1 j) (hX post h)))))),
          fun post h => br_f (ex_lt256 hl) (ex_yP1 hl hb (br_f ex_10 (ex_yR hl' (br_t hs (nm_r (nI_1 j) (hY post h))))))⟩
      · obtain ⟨r, hX, hY⟩ := ih (j + 1) (c + 1) (by omega)
        exact ⟨r, fun post h => br_f (ex_lt256 hl) (ex_xP1 hl hb (br_f ex_10 (ex_xR hl' (br_f hs (nm_e (nm_r (nI_1 j) (hX post h))))))),
          fun post h => br_f (ex_lt256 hl) (ex_yP1 hl hb (br_f ex_10 (ex_yR hl' (br_f hs (nm_e (nm_r (nI_1 j) (hY post h)))))))⟩
    · obtain ⟨r, hX, hY⟩ := ih (j + 1) c (by omega)
      exact ⟨r, fun post h => br_f (ex_lt256 hl) (ex_xP0 hl hb (br_t rfl (nm_r (nI_1 j) (hX post h)))),
        fun post h => br_f (ex_lt256 hl) (ex_yP0 hl hb (br_t rfl (nm_r (nI_1 j) (hY post h))))⟩
theorem ex_cntA (a : Nat → Int32) (x : Int32) : ∃ r : Int32, (∀ post : Int32 → Prop, post r → wpX_countWith post a x) ∧ (∀ post : Int32 → Prop, post r → wpY_atLeast post a x) := by
  obtain ⟨r, hX, hY⟩ := ex_cnt a x 256 0 0 rfl
  rw [nI_0] at hX hY
  exact ⟨r, fun post h => ⟨_, hX post h⟩, fun post h => ⟨_, hY post h⟩⟩
theorem ex_ext (a : Nat → Int32) : ∃ r : Int32, (∀ post : Int32 → Prop, post r → wpX_extents post a) ∧ (∀ post : Int32 → Prop, post r → wpY_extents post a) := by
  obtain ⟨r, hX, hY⟩ := ex_cntA a 1
  exact ⟨r, fun post h => hX _ h, fun post h => hY _ h⟩
theorem ex_nxt (a : Nat → Int32) : ∀ d j, j + d = 256 → ∃ r : Int32, (∀ post : Int32 → Prop, post r → wX_next_12 post a (d + 1) (nI j)) ∧ (∀ post : Int32 → Prop, post r → wY_next_12 post a (d + 1) (nI j)) := by
  intro d
  induction d with
  | zero =>
    intro j hj
    obtain rfl : j = 256 := by omega
    exact ⟨-6, fun _ h => br_t ex_ge256 h, fun _ h => br_t ex_ge256 h⟩
  | succ d ih =>
    intro j hj
    have hl : j < 256 := by omega
    by_cases hb : ex_bg a j
    · exact ⟨nI j, fun post h => br_f (ex_lt256 hl) (ex_xP1 hl hb (br_f ex_10 h)), fun post h => br_f (ex_lt256 hl) (ex_yP1 hl hb (br_f ex_10 h))⟩
    · obtain ⟨r, hX, hY⟩ := ih (j + 1) (by omega)
      exact ⟨r, fun post h => br_f (ex_lt256 hl) (ex_xP0 hl hb (br_t rfl (nm_r (nI_1 j) (hX post h)))),
        fun post h => br_f (ex_lt256 hl) (ex_yP0 hl hb (br_t rfl (nm_r (nI_1 j) (hY post h))))⟩
theorem ex_fb (a : Nat → Int32) : ∀ d j c, j + d = 256 → ∃ r : Int32, (∀ post : Int32 → Prop, post r → wX_freeBlocks_4 post a (d + 1) c (nI j)) ∧ (∀ post : Int32 → Prop, post r → wY_freeBlocks_4 post a (d + 1) c (nI j)) := by
  intro d
  induction d with
  | zero =>
    intro j c hj
    obtain rfl : j = 256 := by omega
    exact ⟨c, fun _ h => br_t ex_ge256 h, fun _ h => br_t ex_ge256 h⟩
  | succ d ih =>
    intro j c hj
    have hl : j < 256 := by omega
    have hl' : j ≤ 256 := by omega
    have hi : vp_in (nI j) 256 := vp_in_nI hl (by omega)
    by_cases z : a j = 0
    · obtain ⟨r, hX, hY⟩ := ih (j + 1) (c + 1) (by omega)
      exact ⟨r, fun post h => br_f (ex_lt256 hl) ⟨hi, br_t (ex_z hl' z) (nm_e (nm_r (nI_1 j) (hX post h)))⟩,
        fun post h => br_f (ex_lt256 hl) ⟨hi, br_t (ex_z hl' z) (nm_e (nm_r (nI_1 j) (hY post h)))⟩⟩
    · obtain ⟨r, hX, hY⟩ := ih (j + 1) c (by omega)
      exact ⟨r, fun post h => br_f (ex_lt256 hl) ⟨hi, br_f (ex_nz hl' z) (nm_r (nI_1 j) (hX post h))⟩,
        fun post h => br_f (ex_lt256 hl) ⟨hi, br_f (ex_nz hl' z) (nm_r (nI_1 j) (hY post h))⟩⟩
theorem ex_by1 (a : Nat → Int32) (x y : Int32) : ∀ d j c, j + d = 256 →
    (∃ r : Int32, (∀ (post : Int32 → Prop) (J : Int32 → Int32 → Prop), post r → wX_bySize_14 post J x y a (d + 1) c (nI j)) ∧ (∀ (post : Int32 → Prop) (J : Int32 → Int32 → Prop), post r → wY_bySize_14 post J x y a (d + 1) c (nI j))) ∨
    (∃ r : Int32, (∀ (post : Int32 → Prop) (J : Int32 → Int32 → Prop), J r (y + 1) → wX_bySize_14 post J x y a (d + 1) c (nI j)) ∧ (∀ (post : Int32 → Prop) (J : Int32 → Int32 → Prop), J r (y + 1) → wY_bySize_14 post J x y a (d + 1) c (nI j))) := by
  intro d
  induction d with
  | zero =>
    intro j c hj
    obtain rfl : j = 256 := by omega
    exact Or.inr ⟨c, fun _ _ h => br_t ex_ge256 (nm_e h), fun _ _ h => br_t ex_ge256 (nm_e h)⟩
  | succ d ih =>
    intro j c hj
    have hl : j < 256 := by omega
    have hl' : j ≤ 256 := by omega
    by_cases hb : ex_bg a j
    · by_cases hs : nI (ex_run a j) = y
      · by_cases hc : c = x
        · exact Or.inl ⟨nI j, fun post J h => br_f (ex_lt256 hl) (ex_xP1 hl hb (br_f ex_10 (ex_xR hl' (br_t hs (br_t hc h))))),
            fun post J h => br_f (ex_lt256 hl) (ex_yP1 hl hb (br_f ex_10 (ex_yR hl' (br_t hs (br_t hc h)))))⟩
        · rcases ih (j + 1) (c + 1) (by omega) with ⟨r, hX, hY⟩ | ⟨r, hX, hY⟩
          · exact Or.inl ⟨r, fun post J h => br_f (ex_lt256 hl) (ex_xP1 hl hb (br_f ex_10 (ex_xR hl' (br_t hs (br_f hc (nm_e (nm_r (nI_1 j) (hX post J h)))))))),
              fun post J h => br_f (ex_lt256 hl) (ex_yP1 hl hb (br_f ex_10 (ex_yR hl' (br_t hs (br_f hc (nm_e (nm_r (nI_1 j) (hY post J h))))))))⟩
          · exact Or.inr ⟨r, fun post J h => br_f (ex_lt256 hl) (ex_xP1 hl hb (br_f ex_10 (ex_xR hl' (br_t hs (br_f hc (nm_e (nm_r (nI_1 j) (hX post J h)))))))),
              fun post J h => br_f (ex_lt256 hl) (ex_yP1 hl hb (br_f ex_10 (ex_yR hl' (br_t hs (br_f hc (nm_e (nm_r (nI_1 j) (hY post J h))))))))⟩
      · rcases ih (j + 1) c (by omega) with ⟨r, hX, hY⟩ | ⟨r, hX, hY⟩
        · exact Or.inl ⟨r, fun post J h => br_f (ex_lt256 hl) (ex_xP1 hl hb (br_f ex_10 (ex_xR hl' (br_f hs (nm_r (nI_1 j) (hX post J h)))))),
            fun post J h => br_f (ex_lt256 hl) (ex_yP1 hl hb (br_f ex_10 (ex_yR hl' (br_f hs (nm_r (nI_1 j) (hY post J h))))))⟩
        · exact Or.inr ⟨r, fun post J h => br_f (ex_lt256 hl) (ex_xP1 hl hb (br_f ex_10 (ex_xR hl' (br_f hs (nm_r (nI_1 j) (hX post J h)))))),
            fun post J h => br_f (ex_lt256 hl) (ex_yP1 hl hb (br_f ex_10 (ex_yR hl' (br_f hs (nm_r (nI_1 j) (hY post J h))))))⟩
    · rcases ih (j + 1) c (by omega) with ⟨r, hX, hY⟩ | ⟨r, hX, hY⟩
      · exact Or.inl ⟨r, fun post J h => br_f (ex_lt256 hl) (ex_xP0 hl hb (br_t rfl (nm_r (nI_1 j) (hX post J h)))),
          fun post J h => br_f (ex_lt256 hl) (ex_yP0 hl hb (br_t rfl (nm_r (nI_1 j) (hY post J h))))⟩
      · exact Or.inr ⟨r, fun post J h => br_f (ex_lt256 hl) (ex_xP0 hl hb (br_t rfl (nm_r (nI_1 j) (hX post J h)))),
          fun post J h => br_f (ex_lt256 hl) (ex_yP0 hl hb (br_t rfl (nm_r (nI_1 j) (hY post J h))))⟩
theorem ex_257 : nI 257 = 257 := by decide +kernel
theorem ex_by2 (a : Nat → Int32) (x : Int32) : ∀ d s c, s + d = 257 → ∃ r : Int32, (∀ post : Int32 → Prop, post r → wX_bySize_4 post x a (d + 1) c (nI s)) ∧ (∀ post : Int32 → Prop, post r → wY_bySize_4 post x a (d + 1) c (nI s)) := by
  intro d
  induction d with
  | zero =>
    intro s c hs
    obtain rfl : s = 257 := by omega
    have h1 : (256 : Int32) < nI 257 := by rw [← ex_256]; exact nI_lt (by omega) (by omega)
    have h2 : (257 : Int32) ≤ nI 257 := by rw [← ex_257]; exact nI_le (by omega) (by omega)
    exact ⟨-6, fun _ h => br_t h1 h, fun _ h => br_t h2 h⟩
  | succ d ih =>
    intro s c hs
    have h1 : ¬ (256 : Int32) < nI s := by rw [← ex_256]; exact nI_nlt (by omega) (by omega)
    have h2 : ¬ (257 : Int32) ≤ nI s := by rw [← ex_257]; exact nI_ge (by omega) (by omega)
    rcases ex_by1 a x (nI s) 256 0 c rfl with ⟨r, hX, hY⟩ | ⟨r, hX, hY⟩
    · rw [nI_0] at hX hY
      exact ⟨r, fun post h => br_f h1 ⟨_, hX post _ h⟩, fun post h => br_f h2 ⟨_, hY post _ h⟩⟩
    · rw [nI_0, nI_1] at hX hY
      obtain ⟨q, kX, kY⟩ := ih (s + 1) r (by omega)
      exact ⟨q, fun post h => br_f h1 ⟨_, hX post _ (kX post h)⟩, fun post h => br_f h2 ⟨_, hY post _ (kY post h)⟩⟩
end EXD
end
section
section EXE
/-! take: the smallest extent that holds n -/
theorem ex_1000 : nI 1000 = 1000 := by decide +kernel
theorem ex_257' : nI 257 = 257 := by decide +kernel
def ex_tk (a : Nat → Int32) (n : Nat) (b s b' s' : Int32) : Prop :=
  (b = -6 ∧ s = nI 257 ∧ b' = -1 ∧ s' = nI 1000) ∨ ∃ p, p < 256 ∧ n ≤ ex_run a p ∧ b = nI p ∧ s = nI (ex_run a p) ∧ b' = nI p ∧ s' = nI (ex_run a p)
theorem ex_take (a : Nat → Int32) (n : Nat) (hn : n ≤ 256) : ∀ d j b s b' s', j + d = 256 → ex_tk a n b s b' s' →
    ∃ b1 s1 b1' s1', ex_tk a n b1 s1 b1' s1' ∧ (∀ post : Int32 → Prop, post b1 → wX_smallestWith_10 post (nI n) a (d + 1) b s (nI j)) ∧
      (∀ post : Int32 → SY → Prop, wY_take_20 post (nI n) a 1 b1' s1' (nI 256) → wY_take_20 post (nI n) a (d + 1) b' s' (nI j)) := by
  intro d
  induction d with
  | zero =>
    intro j b s b' s' hj h
    obtain rfl : j = 256 := by omega
    exact ⟨b, s, b', s', h, fun _ h => br_t ex_ge256 h, fun _ h => h⟩
  | succ d ih =>
    intro j b s b' s' hj h
    have hl : j < 256 := by omega
    have hl' : j ≤ 256 := by omega
    have hr := ex_run_le a j
    by_cases hb : ex_bg a j
    · by_cases hs : ex_run a j < n
      · obtain ⟨b1, s1, b1', s1', h1, hX, hY⟩ := ih (j + 1) b s b' s' (by omega) h
        have hs' : nI (ex_run a j) < nI n := nI_lt hs (by omega)
        exact ⟨b1, s1, b1', s1', h1, fun post h => br_f (ex_lt256 hl) (ex_xP1 hl hb (br_f ex_10 (ex_xR hl' (br_t hs' (nm_r (nI_1 j) (hX post h)))))),
          fun post h => br_f (ex_lt256 hl) (ex_yP1 hl hb (br_f ex_10 (ex_yR hl' (br_t hs' (nm_r (nI_1 j) (hY post h))))))⟩
      · have hs' : ¬ nI (ex_run a j) < nI n := nI_nlt (by omega) (by omega)
        by_cases hk : s ≤ nI (ex_run a j)
        · have hk' : s' ≤ nI (ex_run a j) := by
            rcases h with ⟨_, e, _, _⟩ | ⟨p, _, _, _, e, _, e'⟩
            · rw [e] at hk
              exact absurd hk (nI_ge (by omega) (by omega))
            · rw [e', ← e]; exact hk
          obtain ⟨b1, s1, b1', s1', h1, hX, hY⟩ := ih (j + 1) b s b' s' (by omega) h
          exact ⟨b1, s1, b1', s1', h1, fun post h => br_f (ex_lt256 hl) (ex_xP1 hl hb (br_f ex_10 (ex_xR hl' (br_f hs' (br_t hk (nm_r (nI_1 j) (hX post h))))))),
            fun post h => br_f (ex_lt256 hl) (ex_yP1 hl hb (br_f ex_10 (ex_yR hl' (br_f hs' (br_t hk' (nm_r (nI_1 j) (hY post h)))))))⟩
        · have hk' : ¬ s' ≤ nI (ex_run a j) := by
            rcases h with ⟨_, _, _, e⟩ | ⟨p, _, _, _, e, _, e'⟩
            · rw [e]; exact nI_ge (by omega) (by omega)
            · rw [e', ← e]; exact hk
          obtain ⟨b1, s1, b1', s1', h1, hX, hY⟩ := ih (j + 1) (nI j) (nI (ex_run a j)) (nI j) (nI (ex_run a j)) (by omega) (Or.inr ⟨j, hl, by omega, rfl, rfl, rfl, rfl⟩)
          exact ⟨b1, s1, b1', s1', h1, fun post h => br_f (ex_lt256 hl) (ex_xP1 hl hb (br_f ex_10 (ex_xR hl' (br_f hs' (br_f hk (nm_r (nI_1 j) (hX post h))))))),
            fun post h => br_f (ex_lt256 hl) (ex_yP1 hl hb (br_f ex_10 (ex_yR hl' (br_f hs' (br_f hk' (nm_r (nI_1 j) (hY post h)))))))⟩
    · obtain ⟨b1, s1, b1', s1', h1, hX, hY⟩ := ih (j + 1) b s b' s' (by omega) h
      exact ⟨b1, s1, b1', s1', h1, fun post h => br_f (ex_lt256 hl) (ex_xP0 hl hb (br_t rfl (nm_r (nI_1 j) (hX post h)))),
        fun post h => br_f (ex_lt256 hl) (ex_yP0 hl hb (br_t rfl (nm_r (nI_1 j) (hY post h))))⟩
theorem ex_m1n : ¬ (0 : Int32) ≤ -1 := by decide
/-- one answer and one state for both -/
theorem ex_takeA (a : Nat → Int32) (hB : ex_B a) (x : Int32) : ∃ (r : Int32) (a1 : Nat → Int32), ex_B a1 ∧ (∀ post : Int32 → SX → Prop, post r a1 → wpX_take post a x) ∧ (∀ post : Int32 → SY → Prop, post r a1 → wpY_take post a x) := by
  rcases ex_size x with ⟨n, h1, h2, rfl⟩ | ⟨hX, hY⟩
  · obtain ⟨b1, s1, b1', s1', h, hX, hY⟩ := ex_take a n h2 256 0 (-6) (nI 257) (-1) (nI 1000) rfl (Or.inl ⟨rfl, rfl, rfl, rfl⟩)
    rw [nI_0, ex_257'] at hX
    rw [nI_0, ex_1000] at hY
    rcases h with ⟨e, _, e', _⟩ | ⟨p, hp, hr, e, _, e', _⟩
    · subst e e'
      refine ⟨-3, a, hB, fun post h => ?_, fun post h => ?_⟩
      · exact ex_xSz h1 h2 (br_f ex_10 ⟨_, hX _ (br_t rfl h)⟩)
      · exact ex_ySz h1 h2 (br_t rfl ⟨_, hY post (br_t ex_ge256 (br_f ex_m1n h))⟩)
    · subst e e'
      have hl := ex_run_le a p
      refine ⟨nI p, ex_st 1 n p a, ex_B_st (Or.inr rfl) _ _ _ hB, fun post h => ?_, fun post h => ?_⟩
      · exact ex_xSz h1 h2 (br_f ex_10 ⟨_, hX _ (br_f (ex_ne6 (by omega)) (ex_xS ex_vb1 (by omega) h))⟩)
      · exact ex_ySz h1 h2 (br_t rfl ⟨_, hY post (br_t ex_ge256 (br_t (nI_pos' (by omega)) (ex_yS ex_vb1 (by omega) h)))⟩)
  · exact ⟨-2, a, hB, fun post h => hX _ _ (br_t rfl h), fun post h => hY _ _ (br_f ex_10 h)⟩

/-! takeNear: the nearest -/
def ex_ds (x y : Nat) : Nat := (y - x) + (x - y)
theorem ex_ds_t {x y : Nat} (h : y ≤ x) : nI x - nI y = nI (ex_ds x y) := by
  rw [ex_sub h]; unfold ex_ds; congr 1; omega
theorem ex_ds_f {x y : Nat} (h : x < y) : nI y - nI x = nI (ex_ds x y) := by
  rw [ex_sub (by omega)]; unfold ex_ds; congr 1; omega
theorem ex_ds_lt {x y : Nat} (hx : x < 256) (hy : y < 256) : ex_ds x y < 256 := by unfold ex_ds; omega
theorem ex_yAw {post : Int32 → Prop} {a : Nat → Int32} {x y : Nat} (hx : x < 256) (hy : y < 256) (h : post (nI (ex_ds x y))) : wpY_away post a (nI x) (nI y) := by
  by_cases c : y ≤ x
  · refine br_t (nI_le c (by omega)) ?_
    rw [ex_ds_t c]; exact h
  · refine br_f (nI_ge (by omega) (by omega)) ?_
    rw [ex_ds_f (by omega)]; exact h
theorem ex_xAw {P : Int32 → Prop} {x y : Nat} (hx : x < 256) (hy : y < 256) (h : P (nI (ex_ds x y))) : (nI y ≤ nI x → P (nI x - nI y)) ∧ (¬ nI y ≤ nI x → P (nI y - nI x)) := by
  by_cases c : y ≤ x
  · refine br_t (nI_le c (by omega)) ?_
    rw [ex_ds_t c]; exact h
  · refine br_f (nI_ge (by omega) (by omega)) ?_
    rw [ex_ds_f (by omega)]; exact h
def ex_nr (a : Nat → Int32) (q n : Nat) (b t b' : Int32) : Prop :=
  (b = -6 ∧ t = nI 256 ∧ b' = -1) ∨ ∃ p, p < 256 ∧ n ≤ ex_run a p ∧ b = nI p ∧ t = nI (ex_ds p q) ∧ b' = nI p
theorem ex_near (a : Nat → Int32) (q n : Nat) (hq : q < 256) (hn : n ≤ 256) : ∀ d j b t b', j + d = 256 → ex_nr a q n b t b' →
    ∃ b1 t1 b1', ex_nr a q n b1 t1 b1' ∧ (∀ post : Int32 → Prop, post b1 → wX_nearestWith_11 post (nI q) (nI n) a (d + 1) b t (nI j)) ∧
      (∀ post : Int32 → SY → Prop, wY_takeNear_26 post (nI q) (nI n) a 1 b1' (nI 256) → wY_takeNear_26 post (nI q) (nI n) a (d + 1) b' (nI j)) := by
  intro d
  induction d with
  | zero =>
    intro j b t b' hj h
    obtain rfl : j = 256 := by omega
    exact ⟨b, t, b', h, fun _ h => br_t ex_ge256 h, fun _ h => h⟩
  | succ d ih =>
    intro j b t b' hj h
    have hl : j < 256 := by omega
    have hl' : j ≤ 256 := by omega
    have hr := ex_run_le a j
    have hd := ex_ds_lt hl hq
    by_cases hb : ex_bg a j
    · by_cases hs : ex_run a j < n
      · obtain ⟨b1, t1, b1', h1, hX, hY⟩ := ih (j + 1) b t b' (by omega) h
        have hs' : nI (ex_run a j) < nI n := nI_lt hs (by omega)
        exact ⟨b1, t1, b1', h1, fun post h => br_f (ex_lt256 hl) (ex_xP1 hl hb (br_f ex_10 (ex_xR hl' (br_t hs' (nm_r (nI_1 j) (hX post h)))))),
          fun post h => br_f (ex_lt256 hl) (ex_yP1 hl hb (br_f ex_10 (ex_yR hl' (br_t hs' (nm_r (nI_1 j) (hY post h))))))⟩
      · have hs' : ¬ nI (ex_run a j) < nI n := nI_nlt (by omega) (by omega)
        have kX : ∀ (post : Int32 → Prop), wX_nearestWith_55 post (wX_nearestWith_11 post (nI q) (nI n) a (d + 1)) (nI q) (nI n) b t (nI j) (nI (ex_ds j q)) a → wX_nearestWith_11 post (nI q) (nI n) a (d + 1 + 1) b t (nI j) := fun post h =>
          br_f (ex_lt256 hl) (ex_xP1 hl hb (br_f ex_10 (ex_xR hl' (br_f hs' (ex_xAw (P := fun z => wX_nearestWith_55 post (wX_nearestWith_11 post (nI q) (nI n) a (d + 1)) (nI q) (nI n) b t (nI j) z a) hl hq h)))))
        rcases h with ⟨e1, e2, e3⟩ | ⟨p, hp, hpr, e1, e2, e3⟩
        · subst e1 e2 e3
          have hk : ¬ nI 256 ≤ nI (ex_ds j q) := nI_ge hd (by omega)
          obtain ⟨b1, t1, b1', h1, hX, hY⟩ := ih (j + 1) (nI j) (nI (ex_ds j q)) (nI j) (by omega) (Or.inr ⟨j, hl, by omega, rfl, rfl, rfl⟩)
          exact ⟨b1, t1, b1', h1, fun post h => kX post (br_f hk (nm_r (nI_1 j) (hX post h))),
            fun post h => br_f (ex_lt256 hl) (ex_yP1 hl hb (br_f ex_10 (ex_yR hl' (br_f hs' (br_t (by decide) (nm_r (nI_1 j) (hY post h)))))))⟩
        · subst e1 e2 e3
          have hdp := ex_ds_lt hp hq
          by_cases hk : ex_ds p q ≤ ex_ds j q
          · have hk' : nI (ex_ds p q) ≤ nI (ex_ds j q) := nI_le hk (by omega)
            obtain ⟨b1, t1, b1', h1, hX, hY⟩ := ih (j + 1) (nI p) (nI (ex_ds p q)) (nI p) (by omega) (Or.inr ⟨p, hp, hpr, rfl, rfl, rfl⟩)
            exact ⟨b1, t1, b1', h1, fun post h => kX post (br_t hk' (nm_r (nI_1 j) (hX post h))),
              fun post h => br_f (ex_lt256 hl) (ex_yP1 hl hb (br_f ex_10 (ex_yR hl' (br_f hs' (br_f (nI_pos (by omega)) (ex_yAw hl hq (ex_yAw hp hq (br_t hk' (nm_r (nI_1 j) (hY post h))))))))))⟩
          · have hk' : ¬ nI (ex_ds p q) ≤ nI (ex_ds j q) := nI_ge (by omega) (by omega)
            obtain ⟨b1, t1, b1', h1, hX, hY⟩ := ih (j + 1) (nI j) (nI (ex_ds j q)) (nI j) (by omega) (Or.inr ⟨j, hl, by omega, rfl, rfl, rfl⟩)
            exact ⟨b1, t1, b1', h1, fun post h => kX post (br_f hk' (nm_r (nI_1 j) (hX post h))),
              fun post h => br_f (ex_lt256 hl) (ex_yP1 hl hb (br_f ex_10 (ex_yR hl' (br_f hs' (br_f (nI_pos (by omega)) (ex_yAw hl hq (ex_yAw hp hq (br_f hk' (nm_r (nI_1 j) (hY post h))))))))))⟩
    · obtain ⟨b1, t1, b1', h1, hX, hY⟩ := ih (j + 1) b t b' (by omega) h
      exact ⟨b1, t1, b1', h1, fun post h => br_f (ex_lt256 hl) (ex_xP0 hl hb (br_t rfl (nm_r (nI_1 j) (hX post h)))),
        fun post h => br_f (ex_lt256 hl) (ex_yP0 hl hb (br_t rfl (nm_r (nI_1 j) (hY post h))))⟩
theorem ex_nearA (a : Nat → Int32) (hB : ex_B a) (y x : Int32) : ∃ (r : Int32) (a1 : Nat → Int32), ex_B a1 ∧ (∀ post : Int32 → SX → Prop, post r a1 → wpX_takeNear post a y x) ∧ (∀ post : Int32 → SY → Prop, post r a1 → wpY_takeNear post a y x) := by
  rcases ex_blk y with ⟨q, hq, rfl⟩ | ⟨hX, hY⟩
  · rcases ex_size x with ⟨n, h1, h2, rfl⟩ | ⟨hX, hY⟩
    · obtain ⟨b1, t1, b1', h, hX, hY⟩ := ex_near a q n hq h2 256 0 (-6) (nI 256) (-1) rfl (Or.inl ⟨rfl, rfl, rfl⟩)
      rw [nI_0, ex_256] at hX
      rw [nI_0] at hY
      rcases h with ⟨e, _, e'⟩ | ⟨p, hp, hr, e, _, e'⟩
      · subst e e'
        refine ⟨-3, a, hB, fun post h => ?_, fun post h => ?_⟩
        · exact ex_xB hq (br_f ex_10 (ex_xSz h1 h2 (br_f ex_10 ⟨_, hX _ (br_t rfl h)⟩)))
        · exact ex_yBB hq (br_t rfl (ex_ySz h1 h2 (br_t rfl ⟨_, hY post (br_t ex_ge256 (br_f ex_m1n h))⟩)))
      · subst e e'
        have hl := ex_run_le a p
        refine ⟨nI p, ex_st 1 n p a, ex_B_st (Or.inr rfl) _ _ _ hB, fun post h => ?_, fun post h => ?_⟩
        · exact ex_xB hq (br_f ex_10 (ex_xSz h1 h2 (br_f ex_10 ⟨_, hX _ (br_f (ex_ne6 (by omega)) (ex_xS ex_vb1 (by omega) h))⟩)))
        · exact ex_yBB hq (br_t rfl (ex_ySz h1 h2 (br_t rfl ⟨_, hY post (br_t ex_ge256 (br_t (nI_pos' (by omega)) (ex_yS ex_vb1 (by omega) h)))⟩)))
    · exact ⟨-2, a, hB, fun post h => ex_xB hq (br_f ex_10 (hX _ _ (br_t rfl h))), fun post h => ex_yBB hq (br_t rfl (hY _ _ (br_f ex_10 h)))⟩
  · exact ⟨-1, a, hB, fun post h => hX _ _ (br_t rfl h), fun post h => hY _ _ (br_f ex_10 h)⟩
end EXE
end
section
section EXF
/-! takeAt, give, sizeAt -/
theorem ex_m2n : ¬ (0 : Int32) ≤ -2 := by decide
theorem ex_refB {post : Int32 → Prop} {a : Nat → Int32} {y x : Int32} (hY : ∀ (post : Int32 → Prop) (a : Nat → Int32), post 1 → wpY_badBlock post a y) (h : post (-1)) : wpY_refusal post a y x := hY _ _ (br_f ex_10 h)
theorem ex_ref {p : Nat} (hp : p < 256) (x : Int32) : (∃ n : Nat, 1 ≤ n ∧ p + n ≤ 256 ∧ x = nI n ∧ (∀ (post : Int32 → Prop) (a : Nat → Int32), post 1 → wpX_fits post a (nI p) x) ∧ (∀ (post : Int32 → Prop) (a : Nat → Int32), post 0 → wpY_refusal post a (nI p) x)) ∨
    ((∀ (post : Int32 → Prop) (a : Nat → Int32), post 0 → wpX_fits post a (nI p) x) ∧ (∀ (post : Int32 → Prop) (a : Nat → Int32), post (-2) → wpY_refusal post a (nI p) x)) := by
  have e : (256 : Int32) - nI p = nI (256 - p) := by rw [← ex_256]; exact ex_sub (by omega)
  rcases ex_size x with ⟨n, h1, h2, rfl⟩ | ⟨hX, hY⟩
  · by_cases c : p + n ≤ 256
    · left
      have c1 : ¬ (256 : Int32) - nI p < nI n := by rw [e]; exact nI_nlt (by omega) (by omega)
      have c2 : nI n ≤ (256 : Int32) - nI p := by rw [e]; exact nI_le (by omega) (by omega)
      exact ⟨n, h1, c, rfl, fun post a h => ex_xSz h1 h2 (br_f ex_10 (br_f c1 h)), fun post a h => ex_yBB hp (br_t rfl (ex_ySz h1 h2 (br_t rfl (br_t c2 h))))⟩
    · right
      have c1 : (256 : Int32) - nI p < nI n := by rw [e]; exact nI_lt (by omega) (by omega)
      have c2 : ¬ nI n ≤ (256 : Int32) - nI p := by rw [e]; exact nI_ge (by omega) (by omega)
      exact ⟨fun post a h => ex_xSz h1 h2 (br_f ex_10 (br_t c1 h)), fun post a h => ex_yBB hp (br_t rfl (ex_ySz h1 h2 (br_t rfl (br_f c2 h))))⟩
  · exact Or.inr ⟨fun post a h => hX _ _ (br_t rfl h), fun post a h => ex_yBB hp (br_t rfl (hY _ _ (br_f ex_10 h)))⟩

theorem ex_xA1 {post : Int32 → Prop} {a : Nat → Int32} (hB : ex_B a) {p n : Nat} (hn : p + n ≤ 256) : ∀ d j, j + d = p + n → (ex_run a j < d → post 1) → (d ≤ ex_run a j → post 0) → wX_anyIs_3 post (nI p) (nI n) 1 a (d + 1) (nI j) := by
  intro d
  induction d with
  | zero =>
    intro j hj _ h
    have c : nI p + nI n ≤ nI j := by rw [nI_add]; exact nI_le (by omega) (by omega)
    exact br_t c (h (Nat.zero_le _))
  | succ d ih =>
    intro j hj h1 h0
    have c : ¬ nI p + nI n ≤ nI j := by rw [nI_add]; exact nI_ge (by omega) (by omega)
    refine br_f c ⟨vp_in_nI (by omega) (by omega), ?_⟩
    by_cases z : a j = 0
    · have z1 : ¬ a j = 1 := by rw [z]; decide
      have e := ex_run_s (a := a) (b := j) (by omega) z
      exact br_f (ex_nz (by omega) z1) (nm_r (nI_1 j) (ih (j + 1) (by omega) (fun l => h1 (by omega)) (fun l => h0 (by omega))))
    · have z1 : a j = 1 := (hB j).resolve_left z
      have e := ex_run_0 z
      exact br_t (ex_z (by omega) z1) (h1 (by omega))
theorem ex_atA (a : Nat → Int32) (hB : ex_B a) (y x : Int32) : ∃ (r : Int32) (a1 : Nat → Int32), ex_B a1 ∧ (∀ post : Int32 → SX → Prop, post r a1 → wpX_takeAt post a y x) ∧ (∀ post : Int32 → SY → Prop, post r a1 → wpY_takeAt post a y x) := by
  rcases ex_blk y with ⟨p, hp, rfl⟩ | ⟨hX, hY⟩
  · rcases ex_ref hp x with ⟨n, h1, h2, rfl, hX, hY⟩ | ⟨hX, hY⟩
    · have hl := ex_run_le a p
      by_cases c : n ≤ ex_run a p
      · have c' : nI n ≤ nI (ex_run a p) := nI_le c (by omega)
        obtain ⟨r, kX, kY⟩ := ex_ext (ex_st 1 n p a)
        refine ⟨r, ex_st 1 n p a, ex_B_st (Or.inr rfl) _ _ _ hB, fun post h => ?_, fun post h => ?_⟩
        · refine ex_xB hp (br_f ex_10 (hX _ _ (br_f ex_10 ?_)))
          exact ⟨n + 1, ex_xA1 hB h2 n p rfl (fun l => absurd l (by omega)) (fun _ => br_t rfl (ex_xS ex_vb1 h2 (kX _ h)))⟩
        · exact hY _ _ (br_t (Int32.le_refl _) (ex_yR (by omega) (br_t c' (ex_yS ex_vb1 h2 (kY _ h)))))
      · have c' : ¬ nI n ≤ nI (ex_run a p) := nI_ge (by omega) (by omega)
        refine ⟨-4, a, hB, fun post h => ?_, fun post h => ?_⟩
        · refine ex_xB hp (br_f ex_10 (hX _ _ (br_f ex_10 ?_)))
          exact ⟨n + 1, ex_xA1 hB h2 n p rfl (fun _ => br_f ex_10 h) (fun l => absurd l (by omega))⟩
        · exact hY _ _ (br_t (Int32.le_refl _) (ex_yR (by omega) (br_f c' h)))
    · exact ⟨-2, a, hB, fun post h => ex_xB hp (br_f ex_10 (hX _ _ (br_t rfl h))), fun post h => hY _ _ (br_f ex_m2n h)⟩
  · exact ⟨-1, a, hB, fun post h => hX _ _ (br_t rfl h), fun post h => ex_refB hY (br_f ex_m1n h)⟩

/-! sizeAt -/
theorem ex_xPl {post : Int32 → Prop} {a : Nat → Int32} : ∀ b, b ≤ 256 → post (nI (ex_pl a b)) → wX_placeOf_2 post a (b + 1) (nI b) := by
  intro b
  induction b with
  | zero =>
    intro _ h
    have c : nI 0 ≤ 0 := by rw [nI_0]; exact Int32.le_refl _
    exact br_t c h
  | succ b ih =>
    intro hb h
    refine br_f (nI_nle (by omega) (by omega)) ?_
    rw [nI_pred]
    refine ⟨vp_in_nI (by omega) (by omega), ?_⟩
    by_cases z : a b = 0
    · rw [ex_pl_t z] at h
      exact br_t (ex_z (by omega) z) (nm_r (ex_m1 b) (ih (by omega) h))
    · rw [ex_pl_f z] at h
      exact br_f (ex_nz (by omega) z) h
theorem ex_ySl1 {post : Int32 → Prop} {a : Nat → Int32} {q t : Nat} (hq : q < 256) (hz : a q = 0) : ∀ d j f, j + d = 256 → f ≤ 256 → (f ≤ d ∨ f = t) → ex_pl a f = t → wpY_run post a (nI t) → wY_sizeAt_14 post (nI q) a (d + 1) (nI f) (nI j) := by
  intro d
  induction d with
  | zero =>
    intro j f hj hf ho ht h
    obtain rfl : j = 256 := by omega
    have e : f = t := by
      rcases ho with l | l
      · obtain rfl : f = 0 := by omega
        exact ht
      · exact l
    subst e
    exact br_t ex_ge256 h
  | succ d ih =>
    intro j f hj hf ho ht h
    have hl : j < 256 := by omega
    refine br_f (ex_lt256 hl) ?_
    cases f with
    | zero =>
      have c : nI 0 ≤ 0 := by rw [nI_0]; exact Int32.le_refl _
      exact br_t c (nm_r (nI_1 j) (ih (j + 1) 0 (by omega) hf (Or.inl (Nat.zero_le _)) ht h))
    | succ g =>
      refine br_f (nI_nle (by omega) (by omega)) ⟨vp_in_nI hq (by omega), br_t (ex_z (by omega) hz) ?_⟩
      rw [nI_pred]
      refine ⟨vp_in_nI (by omega) (by omega), ?_⟩
      by_cases z : a g = 0
      · have e := ex_pl_t z
        have e2 := ex_pl_le a g
        exact br_t (ex_z (by omega) z) (nm_r (ex_m1 g) (nm_r (nI_1 j) (ih (j + 1) g (by omega) (by omega) (by omega) (by omega) h)))
      · have e := ex_pl_f z
        exact br_f (ex_nz (by omega) z) (nm_r (nI_1 j) (ih (j + 1) (g + 1) (by omega) hf (Or.inr (by omega)) ht h))
theorem ex_ySl2 {post : Int32 → Prop} {a : Nat → Int32} {q : Nat} (hq : q < 256) (hz : ¬ a q = 0) : ∀ d j, j + d = 256 → wpY_run post a (nI q) → wY_sizeAt_14 post (nI q) a (d + 1) (nI q) (nI j) := by
  intro d
  induction d with
  | zero =>
    intro j hj h
    obtain rfl : j = 256 := by omega
    exact br_t ex_ge256 h
  | succ d ih =>
    intro j hj h
    have hl : j < 256 := by omega
    refine br_f (ex_lt256 hl) (br_c (fun _ => ?_) (fun _ => ?_))
    · exact nm_r (nI_1 j) (ih (j + 1) (by omega) h)
    · exact ⟨vp_in_nI hq (by omega), br_f (ex_nz (by omega) hz) (nm_r (nI_1 j) (ih (j + 1) (by omega) h))⟩
theorem ex_szA (a : Nat → Int32) (x : Int32) : ∃ r : Int32, (∀ post : Int32 → Prop, post r → wpX_sizeAt post a x) ∧ (∀ post : Int32 → Prop, post r → wpY_sizeAt post a x) := by
  rcases ex_blk x with ⟨q, hq, rfl⟩ | ⟨hX, hY⟩
  · have hi : vp_in (nI q) 256 := vp_in_nI hq (by omega)
    by_cases z : a q = 0
    · have hl := ex_pl_le a q
      refine ⟨nI (ex_run a (ex_pl a q)), fun post h => ?_, fun post h => ?_⟩
      · exact ex_xB hq (br_f ex_10 ⟨hi, br_t (ex_z (by omega) z) ⟨_, ex_xPl q (by omega) (ex_xR (by omega) h)⟩⟩)
      · have k : wY_sizeAt_14 post (nI q) a (256 + 1) (nI q) (nI 0) := ex_ySl1 hq z 256 0 q rfl (by omega) (Or.inl (by omega)) rfl (ex_yR (by omega) h)
        rw [nI_0] at k
        exact ex_yBB hq (br_t rfl ⟨_, k⟩)
    · refine ⟨0, fun post h => ?_, fun post h => ?_⟩
      · exact ex_xB hq (br_f ex_10 ⟨hi, br_f (ex_nz (by omega) z) h⟩)
      · have k : wY_sizeAt_14 post (nI q) a (256 + 1) (nI q) (nI 0) := ex_ySl2 hq z 256 0 rfl (ex_yR (by omega) (by rw [ex_run_0 z]; exact h))
        rw [nI_0] at k
        exact ex_yBB hq (br_t rfl ⟨_, k⟩)
  · exact ⟨-1, fun post h => hX _ _ (br_t rfl h), fun post h => hY _ _ (br_f ex_10 h)⟩

/-! give -/
theorem ex_gv (a : Nat → Int32) {p n : Nat} (hn : p + n ≤ 256) : ∀ d j, j + d = p + n →
    ((∀ post : Int32 → Prop, post 1 → wX_anyIs_3 post (nI p) (nI n) 0 a (d + 1) (nI j)) ∧ (∀ post : Int32 → SY → Prop, post (-5) a → wY_give_16 post (nI p) (nI n) a (d + 1) (nI j))) ∨
    ((∀ post : Int32 → Prop, post 0 → wX_anyIs_3 post (nI p) (nI n) 0 a (d + 1) (nI j)) ∧ (∀ post : Int32 → SY → Prop, wpY_mark (fun u => wpY_sizeAt (fun r => post r u) u (nI p)) a (nI p) (nI n) 0 → wY_give_16 post (nI p) (nI n) a (d + 1) (nI j))) := by
  intro d
  induction d with
  | zero =>
    intro j hj
    have c : nI p + nI n ≤ nI j := by rw [nI_add]; exact nI_le (by omega) (by omega)
    exact Or.inr ⟨fun _ h => br_t c h, fun _ h => br_t c h⟩
  | succ d ih =>
    intro j hj
    have c : ¬ nI p + nI n ≤ nI j := by rw [nI_add]; exact nI_ge (by omega) (by omega)
    have hi : vp_in (nI j) 256 := vp_in_nI (by omega) (by omega)
    by_cases z : a j = 0
    · exact Or.inl ⟨fun _ h => br_f c ⟨hi, br_t (ex_z (by omega) z) h⟩, fun _ h => br_f c ⟨hi, br_t (ex_z (by omega) z) h⟩⟩
    · have z' : ¬ a (nI j).toNatClampNeg = 0 := ex_nz (by omega) z
      rcases ih (j + 1) (by omega) with ⟨hX, hY⟩ | ⟨hX, hY⟩
      · exact Or.inl ⟨fun post h => br_f c ⟨hi, br_f z' (nm_r (nI_1 j) (hX post h))⟩, fun post h => br_f c ⟨hi, br_f z' (nm_r (nI_1 j) (hY post h))⟩⟩
      · exact Or.inr ⟨fun post h => br_f c ⟨hi, br_f z' (nm_r (nI_1 j) (hX post h))⟩, fun post h => br_f c ⟨hi, br_f z' (nm_r (nI_1 j) (hY post h))⟩⟩
theorem ex_gvA (a : Nat → Int32) (hB : ex_B a) (y x : Int32) : ∃ (r : Int32) (a1 : Nat → Int32), ex_B a1 ∧ (∀ post : Int32 → SX → Prop, post r a1 → wpX_give post a y x) ∧ (∀ post : Int32 → SY → Prop, post r a1 → wpY_give post a y x) := by
  rcases ex_blk y with ⟨p, hp, rfl⟩ | ⟨hX, hY⟩
  · rcases ex_ref hp x with ⟨n, h1, h2, rfl, hX, hY⟩ | ⟨hX, hY⟩
    · rcases ex_gv a h2 n p rfl with ⟨kX, kY⟩ | ⟨kX, kY⟩
      · exact ⟨-5, a, hB, fun post h => ex_xB hp (br_f ex_10 (hX _ _ (br_f ex_10 ⟨_, kX _ (br_f ex_10 h)⟩))), fun post h => hY _ _ (br_t (Int32.le_refl _) ⟨_, kY post h⟩)⟩
      · obtain ⟨r, sX, sY⟩ := ex_szA (ex_st 0 n p a) (nI p)
        exact ⟨r, ex_st 0 n p a, ex_B_st (Or.inl rfl) _ _ _ hB, fun post h => ex_xB hp (br_f ex_10 (hX _ _ (br_f ex_10 ⟨_, kX _ (br_t rfl (ex_xS ex_vb0 h2 (sX _ h)))⟩))), fun post h => hY _ _ (br_t (Int32.le_refl _) ⟨_, kY post (ex_yS ex_vb0 h2 (sY _ h))⟩)⟩
    · exact ⟨-2, a, hB, fun post h => ex_xB hp (br_f ex_10 (hX _ _ (br_t rfl h))), fun post h => hY _ _ (br_f ex_m2n h)⟩
  · exact ⟨-1, a, hB, fun post h => hX _ _ (br_t rfl h), fun post h => ex_refB hY (br_f ex_m1n h)⟩
end EXF
end
section
section EXG
/-! largest, takePieces -/
def ex_lpI (a : Nat → Int32) (j : Nat) (b s : Int32) : Prop :=
  (b = -6 ∧ s = 0 ∧ ∀ q, q < j → ¬ ex_bg a q) ∨
  ∃ p, p < j ∧ b = nI p ∧ s = nI (ex_run a p) ∧ ex_bg a p ∧ (∀ q, q < j → ex_bg a q → ex_run a q ≤ ex_run a p) ∧ (∀ q, q < p → ex_bg a q → ex_run a q < ex_run a p)
def ex_lpF (a : Nat → Int32) (r : Int32) : Prop := (r = -6 ∧ ex_non a) ∨ ∃ p, r = nI p ∧ ex_fst a p
theorem ex_lpS {a : Nat → Int32} {j : Nat} {b s : Int32} (h : ex_lpI a j b s) (hj : ex_bg a j → (∃ p, b = nI p ∧ p < j ∧ ex_run a j ≤ ex_run a p)) (hlt : j < 256) : ex_lpI a (j + 1) b s := by
  rcases h with ⟨e, e', h⟩ | ⟨p, hp, e, e', h1, h2, h3⟩
  · refine Or.inl ⟨e, e', fun q hq hb => ?_⟩
    by_cases c : q = j
    · rw [c] at hb
      obtain ⟨p, ep, hp, _⟩ := hj hb
      rw [e] at ep
      exact ex_ne6 (by omega) ep.symm
    · exact h q (by omega) hb
  · refine Or.inr ⟨p, by omega, e, e', h1, fun q hq hb => ?_, h3⟩
    by_cases c : q = j
    · rw [c] at hb ⊢
      obtain ⟨p', ep, hp', hr⟩ := hj hb
      rw [e] at ep
      have : p = p' := (nI_eq (by omega) (by omega)).mp ep
      rw [this]; exact hr
    · exact h2 q (by omega) hb
theorem ex_lp (a : Nat → Int32) : ∀ d j b s, j + d = 256 → ex_lpI a j b s → ∃ r, ex_lpF a r ∧ ∀ post : Int32 → Prop, post r → wX_largestPlace_7 post a (d + 1) b s (nI j) := by
  intro d
  induction d with
  | zero =>
    intro j b s hj h
    obtain rfl : j = 256 := by omega
    refine ⟨b, ?_, fun _ h => br_t ex_ge256 h⟩
    rcases h with ⟨e, _, h⟩ | ⟨p, hp, e, _, h1, h2, h3⟩
    · exact Or.inl ⟨e, h⟩
    · exact Or.inr ⟨p, e, hp, h1, h2, h3⟩
  | succ d ih =>
    intro j b s hj h
    have hl : j < 256 := by omega
    have hl' : j ≤ 256 := by omega
    by_cases hb : ex_bg a j
    · have hpos := ex_run_pos hl hb.1
      have hle := ex_run_le a j
      have new : (¬ nI (ex_run a j) ≤ s) → ex_lpI a (j + 1) (nI j) (nI (ex_run a j)) → ∃ r, ex_lpF a r ∧ ∀ post : Int32 → Prop, post r → wX_largestPlace_7 post a (d + 1 + 1) b s (nI j) := by
        intro c hI
        obtain ⟨r, h1, hX⟩ := ih (j + 1) _ _ (by omega) hI
        exact ⟨r, h1, fun post h => br_f (ex_lt256 hl) (ex_xP1 hl hb (br_f ex_10 (ex_xR hl' (br_f c (nm_r (nI_1 j) (hX post h))))))⟩
      rcases h with ⟨e, e', h⟩ | ⟨p, hp, e, e', h1, h2, h3⟩
      · refine new (by rw [e']; exact nI_nle hpos (by omega)) (Or.inr ⟨j, by omega, rfl, rfl, hb, fun q hq hbq => ?_, fun q hq hbq => absurd hbq (h q hq)⟩)
        by_cases c : q = j
        · rw [c]; exact Nat.le_refl _
        · exact absurd hbq (h q (by omega))
      · have hlp := ex_run_le a p
        by_cases c : ex_run a j ≤ ex_run a p
        · have hI : ex_lpI a (j + 1) b s := ex_lpS (Or.inr ⟨p, hp, e, e', h1, h2, h3⟩) (fun _ => ⟨p, e, hp, c⟩) hl
          obtain ⟨r, k1, hX⟩ := ih (j + 1) b s (by omega) hI
          have c' : nI (ex_run a j) ≤ s := by rw [e']; exact nI_le c (by omega)
          exact ⟨r, k1, fun post h => br_f (ex_lt256 hl) (ex_xP1 hl hb (br_f ex_10 (ex_xR hl' (br_t c' (nm_r (nI_1 j) (hX post h))))))⟩
        · refine new (by rw [e']; exact nI_ge (by omega) (by omega)) (Or.inr ⟨j, by omega, rfl, rfl, hb, fun q hq hbq => ?_, fun q hq hbq => ?_⟩)
          · by_cases cq : q = j
            · rw [cq]; exact Nat.le_refl _
            · have := h2 q (by omega) hbq
              omega
          · have := h2 q hq hbq
            omega
    · obtain ⟨r, h1, hX⟩ := ih (j + 1) b s (by omega) (ex_lpS h (fun k => absurd k hb) hl)
      exact ⟨r, h1, fun post h => br_f (ex_lt256 hl) (ex_xP0 hl hb (br_t rfl (nm_r (nI_1 j) (hX post h))))⟩
theorem ex_lpA (a : Nat → Int32) : ∃ r, ex_lpF a r ∧ ∀ post : Int32 → Prop, post r → wpX_largestPlace post a := by
  obtain ⟨r, h, hX⟩ := ex_lp a 256 0 (-6) 0 rfl (Or.inl ⟨rfl, rfl, fun q hq => absurd hq (by omega)⟩)
  rw [nI_0] at hX
  exact ⟨r, h, fun post h => ⟨_, hX post h⟩⟩
theorem ex_lg (a : Nat → Int32) : ∀ d j m, j + d = 256 → m ≤ 256 → (∀ q, q < j → ex_run a q ≤ m) → (m = 0 ∨ ∃ q, q < 256 ∧ ex_run a q = m) → ∃ m', ex_max a m' ∧ m' ≤ 256 ∧ ∀ post : Int32 → Prop, post (nI m') → wY_largest_4 post a (d + 1) (nI m) (nI j) := by
  intro d
  induction d with
  | zero =>
    intro j m hj hm h1 h2
    obtain rfl : j = 256 := by omega
    exact ⟨m, ⟨h1, h2⟩, hm, fun _ h => br_t ex_ge256 h⟩
  | succ d ih =>
    intro j m hj hm h1 h2
    have hl : j < 256 := by omega
    have hle := ex_run_le a j
    by_cases c : ex_run a j ≤ m
    · obtain ⟨m', k1, k2, hY⟩ := ih (j + 1) m (by omega) hm (fun q hq => by
        by_cases e : q = j
        · rw [e]; exact c
        · exact h1 q (by omega)) h2
      have c' : nI (ex_run a j) ≤ nI m := nI_le c (by omega)
      exact ⟨m', k1, k2, fun post h => br_f (ex_lt256 hl) (ex_yR (by omega) (br_t c' (nm_r (nI_1 j) (hY post h))))⟩
    · obtain ⟨m', k1, k2, hY⟩ := ih (j + 1) (ex_run a j) (by omega) (by omega) (fun q hq => by
        by_cases e : q = j
        · rw [e]; exact Nat.le_refl _
        · have := h1 q (by omega)
          omega) (Or.inr ⟨j, hl, rfl⟩)
      have c' : ¬ nI (ex_run a j) ≤ nI m := nI_ge (by omega) (by omega)
      exact ⟨m', k1, k2, fun post h => br_f (ex_lt256 hl) (ex_yR (by omega) (br_f c' (nm_r (nI_1 j) (hY post h))))⟩
theorem ex_lgA (a : Nat → Int32) : ∃ m, ex_max a m ∧ m ≤ 256 ∧ ∀ post : Int32 → Prop, post (nI m) → wpY_largest post a := by
  obtain ⟨m, h1, h2, hY⟩ := ex_lg a 256 0 0 rfl (by omega) (fun q hq => absurd hq (by omega)) (Or.inl rfl)
  rw [nI_0] at hY
  exact ⟨m, h1, h2, fun post h => ⟨_, hY post h⟩⟩
theorem ex_lgstA (a : Nat → Int32) : ∃ r : Int32, (∀ post : Int32 → Prop, post r → wpX_largest post a) ∧ (∀ post : Int32 → Prop, post r → wpY_largest post a) := by
  obtain ⟨r, h, hX⟩ := ex_lpA a
  obtain ⟨m, h1, h2, hY⟩ := ex_lgA a
  refine ⟨nI m, fun post k => ?_, hY⟩
  rcases h with ⟨e, h⟩ | ⟨p, e, h⟩
  · subst e
    rw [ex_max_0 h h1, nI_0] at k
    exact hX _ (br_t rfl k)
  · subst e
    have hp := h.1
    rw [ex_max_fst h h1] at k
    exact hX _ (br_f (ex_ne6 (by omega)) (ex_xR (by omega) k))
theorem ex_dnL (a : Nat → Int32) (m : Nat) (hm : m ≤ 256) : ∀ j x, j ≤ 256 → ex_dn a m j x → ∃ r, ex_dn a m 0 r ∧ ∀ (post : Int32 → SY → Prop) (J : Int32 → Int32 → (Nat → Int32) → Prop) (x1 x2 x3 : Int32), wY_takePieces_41 post J x1 x2 x3 (nI m) a 1 r (-1) → wY_takePieces_41 post J x1 x2 x3 (nI m) a (j + 1) x (nI j + (-1)) := by
  intro j
  induction j with
  | zero =>
    intro x _ h
    have e : nI 0 + (-1) = -1 := by rw [nI_0]; decide
    rw [e]
    exact ⟨x, h, fun _ _ _ _ _ k => k⟩
  | succ g ih =>
    intro x hj h
    have hl : g < 256 := by omega
    have hl' : g ≤ 256 := by omega
    have hr := ex_run_le a g
    rw [ex_m1]
    by_cases hb : ex_bg a g
    · by_cases c : ex_run a g = m
      · obtain ⟨r, k, hY⟩ := ih (nI g) (by omega) (ex_dn_hit hl hb c)
        have c' : nI (ex_run a g) = nI m := by rw [c]
        exact ⟨r, k, fun post J x1 x2 x3 h => br_f (nI_pos (by omega)) (ex_yP1 hl hb (br_f ex_10 (ex_yR hl' (br_t c' (nm_e (hY post J x1 x2 x3 h))))))⟩
      · obtain ⟨r, k, hY⟩ := ih x (by omega) (ex_dn_miss h (fun _ => c))
        have c' : ¬ nI (ex_run a g) = nI m := fun e => c ((nI_eq (by omega) (by omega)).mp e)
        exact ⟨r, k, fun post J x1 x2 x3 h => br_f (nI_pos (by omega)) (ex_yP1 hl hb (br_f ex_10 (ex_yR hl' (br_f c' (nm_e (hY post J x1 x2 x3 h))))))⟩
    · obtain ⟨r, k, hY⟩ := ih x (by omega) (ex_dn_miss h (fun h => absurd h hb))
      exact ⟨r, k, fun post J x1 x2 x3 h => br_f (nI_pos (by omega)) (ex_yP0 hl hb (br_t rfl (nm_e (hY post J x1 x2 x3 h))))⟩
theorem ex_m1l : (-1 : Int32) < 0 := by decide
/-- what Y finds in one turn: the same as X -/
theorem ex_turn (a : Nat → Int32) : (ex_non a ∧ ∀ (post : Int32 → SY → Prop) (J : Int32 → Int32 → (Nat → Int32) → Prop) (x1 x2 x3 : Int32), J x2 (x3 + 1) a → wpY_largest (fun r => ∃ n : Nat, wY_takePieces_41 post J x1 x2 x3 r a n (-1) 255) a) ∨
    (∃ p, ex_fst a p ∧ ∀ (post : Int32 → SY → Prop) (J : Int32 → Int32 → (Nat → Int32) → Prop) (x1 x2 x3 : Int32), wY_takePieces_41 post J x1 x2 x3 (nI (ex_run a p)) a 1 (nI p) (-1) → wpY_largest (fun r => ∃ n : Nat, wY_takePieces_41 post J x1 x2 x3 r a n (-1) 255) a) := by
  obtain ⟨r, h, _⟩ := ex_lpA a
  obtain ⟨m, h1, h2, hY⟩ := ex_lgA a
  obtain ⟨q, k, hD⟩ := ex_dnL a m h2 256 (-1) (Nat.le_refl _) (ex_dn_end a m)
  have e255 : nI 256 + (-1) = 255 := by rw [ex_256]; decide
  rw [e255] at hD
  rcases h with ⟨_, h⟩ | ⟨p, _, h⟩
  · left
    refine ⟨h, fun post J x1 x2 x3 hJ => hY _ ⟨_, hD post J x1 x2 x3 ?_⟩⟩
    rw [ex_dn_non h k]
    exact br_t ex_m1l (br_t ex_m1l (nm_e hJ))
  · right
    have e := ex_max_fst h h1
    subst e
    refine ⟨p, h, fun post J x1 x2 x3 hJ => hY _ ⟨_, hD post J x1 x2 x3 ?_⟩⟩
    rw [ex_dn_fst h k]
    exact hJ
theorem ex_idle {a : Nat → Int32} (hn : ex_non a) {post : Int32 → SY → Prop} {x g : Int32} (h : post g a) : ∀ d k, k + d = 256 → wY_takePieces_15 post x (d + 1) g (nI k) a := by
  intro d
  induction d with
  | zero =>
    intro k hk
    obtain rfl : k = 256 := by omega
    exact br_t ex_ge256 h
  | succ d ih =>
    intro k hk
    refine br_f (ex_lt256 (by omega)) (br_c (fun _ => h) (fun _ => ?_))
    rcases ex_turn a with ⟨_, hY⟩ | ⟨p, hp, _⟩
    · refine hY _ _ _ _ _ ?_
      rw [nI_1]
      exact ih (k + 1) (by omega)
    · exact absurd hp.2.1 (hn p hp.1)
theorem ex_pc {n : Nat} (hn : n ≤ 256) : ∀ d k g a, k + d = 256 → ex_B a → g ≤ n → ∃ (r : Int32) (a1 : Nat → Int32), ex_B a1 ∧ (∀ post : Int32 → SX → Prop, post r a1 → wX_takePieces_15 post (nI n) (d + 1) (nI g) (nI k) a) ∧ (∀ post : Int32 → SY → Prop, post r a1 → wY_takePieces_15 post (nI n) (d + 1) (nI g) (nI k) a) := by
  intro d
  induction d with
  | zero =>
    intro k g a hk hB hg
    obtain rfl : k = 256 := by omega
    exact ⟨nI g, a, hB, fun _ h => br_t ex_ge256 h, fun _ h => br_t ex_ge256 h⟩
  | succ d ih =>
    intro k g a hk hB hg
    have hl : k < 256 := by omega
    by_cases c : n ≤ g
    · have c' : nI n ≤ nI g := nI_le c (by omega)
      exact ⟨nI g, a, hB, fun _ h => br_f (ex_lt256 hl) (br_t c' h), fun _ h => br_f (ex_lt256 hl) (br_t c' h)⟩
    · have c' : ¬ nI n ≤ nI g := nI_ge (by omega) (by omega)
      obtain ⟨r, h, hX⟩ := ex_lpA a
      rcases h with ⟨e, h⟩ | ⟨p, e, h⟩
      · subst e
        exact ⟨nI g, a, hB, fun _ h => br_f (ex_lt256 hl) (br_f c' (hX _ (br_t rfl h))), fun _ k1 => ex_idle h k1 (d + 1) k hk⟩
      · subst e
        have hp := h.1
        have hrl := ex_run_le a p
        rcases ex_turn a with ⟨hno, _⟩ | ⟨p', h', hY⟩
        · exact absurd h.2.1 (hno p hp)
        · have epp : p' = p := by
            rcases Nat.lt_trichotomy p' p with l | l | l
            · have t1 := h.2.2.2 p' l h'.2.1
              have t2 := h'.2.2.1 p hp h.2.1
              omega
            · exact l
            · have t1 := h'.2.2.2 p l h.2.1
              have t2 := h.2.2.1 p' h'.1 h'.2.1
              omega
          subst epp
          have en : nI n - nI g = nI (n - g) := ex_sub (by omega)
          by_cases w : n - g ≤ ex_run a p'
          · have w' : nI (n - g) ≤ nI (ex_run a p') := nI_le w (by omega)
            have w2 : nI n - nI g ≤ nI (ex_run a p') := by rw [en]; exact w'
            obtain ⟨r, a1, hB1, kX, kY⟩ := ih (k + 1) (g + (n - g)) (ex_st 1 (n - g) p' a) (by omega) (ex_B_st (Or.inr rfl) _ _ _ hB) (by omega)
            refine ⟨r, a1, hB1, fun post t => br_f (ex_lt256 hl) (br_f c' (hX _ (br_f (ex_ne6 (by omega)) (ex_xR (by omega) (nm_r en (br_t w' ?_)))))),
              fun post t => br_f (ex_lt256 hl) (br_f c' (hY _ _ _ _ _ (br_t ex_m1l (br_f (nI_pos (by omega)) (br_t w2 ?_)))))⟩
            · exact ex_xS ex_vb1 (by omega) (nm_r (nI_add g (n - g)) (nm_r (nI_1 k) (kX post t)))
            · rw [en]
              exact ex_yS ex_vb1 (by omega) (nm_r (nI_add g (n - g)) (nm_r (nI_1 k) (kY post t)))
          · have w' : ¬ nI (n - g) ≤ nI (ex_run a p') := nI_ge (by omega) (by omega)
            have w2 : ¬ nI n - nI g ≤ nI (ex_run a p') := by rw [en]; exact w'
            obtain ⟨r, a1, hB1, kX, kY⟩ := ih (k + 1) (g + ex_run a p') (ex_st 1 (ex_run a p') p' a) (by omega) (ex_B_st (Or.inr rfl) _ _ _ hB) (by omega)
            refine ⟨r, a1, hB1, fun post t => br_f (ex_lt256 hl) (br_f c' (hX _ (br_f (ex_ne6 (by omega)) (ex_xR (by omega) (nm_r en (br_f w' ?_)))))),
              fun post t => br_f (ex_lt256 hl) (br_f c' (hY _ _ _ _ _ (br_t ex_m1l (br_f (nI_pos (by omega)) (br_f w2 ?_)))))⟩
            · exact ex_xS ex_vb1 (by omega) (nm_r (nI_add g (ex_run a p')) (nm_r (nI_1 k) (kX post t)))
            · exact ex_yS ex_vb1 (by omega) (nm_r (nI_add g (ex_run a p')) (nm_r (nI_1 k) (kY post t)))
theorem ex_pcA (a : Nat → Int32) (hB : ex_B a) (x : Int32) : ∃ (r : Int32) (a1 : Nat → Int32), ex_B a1 ∧ (∀ post : Int32 → SX → Prop, post r a1 → wpX_takePieces post a x) ∧ (∀ post : Int32 → SY → Prop, post r a1 → wpY_takePieces post a x) := by
  rcases ex_size x with ⟨n, h1, h2, rfl⟩ | ⟨hX, hY⟩
  · obtain ⟨r, a1, hB1, hX, hY⟩ := ex_pc h2 256 0 0 a rfl hB (Nat.zero_le _)
    rw [nI_0] at hX hY
    exact ⟨r, a1, hB1, fun post h => ex_xSz h1 h2 (br_f ex_10 ⟨_, hX post h⟩), fun post h => ex_ySz h1 h2 (br_t rfl ⟨_, hY post h⟩)⟩
  · exact ⟨-2, a, hB, fun post h => hX _ _ (br_t rfl h), fun post h => hY _ _ (br_f ex_10 h)⟩
end EXG
end
section
section EXH
def i_Rel (k : Nat) (u : SX) (v : SY) : Prop := u = v ∧ ex_B u
theorem i_up {k : Nat} {u : SX} {v : SY} (h : i_Rel k u v) : i_Rel (k + 3) u v := h
theorem i_vc0 : wpX_init (fun u => wpY_init (fun v => i_Rel 0 u v)) := by
  have h : wpX_setAll (fun u => wpY_init (fun v => i_Rel 0 u v)) (fun _ => 0) (nI 0) (nI 256) 0 := by
    refine ex_xS ex_vb0 (by omega) ?_
    rw [ex_st0]
    exact ⟨rfl, fun _ => Or.inl rfl⟩
  rw [nI_0, ex_256] at h
  exact h
theorem i_vc_take {k : Nat} {u : SX} {v : SY} (I : i_Rel k u v) (hk : k + 3 ≤ 1536) (v1 : Int32) : wpX_take (fun r u' => wpY_take (fun r' v' => r' = r ∧ i_Rel (k + 3) u' v') v v1) u v1 := by
  obtain ⟨rfl, hB⟩ := I
  obtain ⟨r, a1, hB1, hX, hY⟩ := ex_takeA u hB v1
  exact hX _ (hY _ ⟨rfl, rfl, hB1⟩)
theorem i_vc_takeNear {k : Nat} {u : SX} {v : SY} (I : i_Rel k u v) (hk : k + 3 ≤ 1536) (v1 : Int32) (v2 : Int32) : wpX_takeNear (fun r u' => wpY_takeNear (fun r' v' => r' = r ∧ i_Rel (k + 3) u' v') v v1 v2) u v1 v2 := by
  obtain ⟨rfl, hB⟩ := I
  obtain ⟨r, a1, hB1, hX, hY⟩ := ex_nearA u hB v1 v2
  exact hX _ (hY _ ⟨rfl, rfl, hB1⟩)
theorem i_vc_takeAt {k : Nat} {u : SX} {v : SY} (I : i_Rel k u v) (hk : k + 3 ≤ 1536) (v1 : Int32) (v2 : Int32) : wpX_takeAt (fun r u' => wpY_takeAt (fun r' v' => r' = r ∧ i_Rel (k + 3) u' v') v v1 v2) u v1 v2 := by
  obtain ⟨rfl, hB⟩ := I
  obtain ⟨r, a1, hB1, hX, hY⟩ := ex_atA u hB v1 v2
  exact hX _ (hY _ ⟨rfl, rfl, hB1⟩)
theorem i_vc_give {k : Nat} {u : SX} {v : SY} (I : i_Rel k u v) (hk : k + 3 ≤ 1536) (v1 : Int32) (v2 : Int32) : wpX_give (fun r u' => wpY_give (fun r' v' => r' = r ∧ i_Rel (k + 3) u' v') v v1 v2) u v1 v2 := by
  obtain ⟨rfl, hB⟩ := I
  obtain ⟨r, a1, hB1, hX, hY⟩ := ex_gvA u hB v1 v2
  exact hX _ (hY _ ⟨rfl, rfl, hB1⟩)
theorem i_vc_takePieces {k : Nat} {u : SX} {v : SY} (I : i_Rel k u v) (hk : k + 3 ≤ 1536) (v1 : Int32) : wpX_takePieces (fun r u' => wpY_takePieces (fun r' v' => r' = r ∧ i_Rel (k + 3) u' v') v v1) u v1 := by
  obtain ⟨rfl, hB⟩ := I
  obtain ⟨r, a1, hB1, hX, hY⟩ := ex_pcA u hB v1
  exact hX _ (hY _ ⟨rfl, rfl, hB1⟩)
theorem i_vc_clear {k : Nat} {u : SX} {v : SY} (I : i_Rel k u v) (hk : k + 3 ≤ 1536) : wpX_clear (fun u' => wpY_clear (fun v' => i_Rel (k + 3) u' v') v) u := by
  obtain ⟨rfl, hB⟩ := I
  have h : wpX_setAll (fun u' => wpY_mark (fun v' => i_Rel (k + 3) u' v') u (nI 0) (nI 256) 0) u (nI 0) (nI 256) 0 := by
    refine ex_xS ex_vb0 (by omega) (ex_yS ex_vb0 (by omega) ?_)
    exact ⟨rfl, ex_B_st (Or.inl rfl) _ _ _ hB⟩
  rw [nI_0, ex_256] at h
  exact h
theorem i_vc_free {k : Nat} {u : SX} {v : SY} (I : i_Rel k u v) (hk : k + 3 ≤ 1536) (v1 : Int32) : wpX_free (fun r => wpY_free (fun r' => r' = r ∧ i_Rel (k + 3) u v) v v1) u v1 := by
  obtain ⟨rfl, hB⟩ := I
  rcases ex_blk v1 with ⟨b, hb, rfl⟩ | ⟨hX, hY⟩
  · have hi : vp_in (nI b) 256 := vp_in_nI hb (by omega)
    by_cases z : u b = 0
    · exact ex_xB hb (br_f ex_10 ⟨hi, br_t (ex_z (by omega) z) (ex_yBB hb (br_t rfl ⟨hi, br_t (ex_z (by omega) z) ⟨rfl, rfl, hB⟩⟩))⟩)
    · exact ex_xB hb (br_f ex_10 ⟨hi, br_f (ex_nz (by omega) z) (ex_yBB hb (br_t rfl ⟨hi, br_f (ex_nz (by omega) z) ⟨rfl, rfl, hB⟩⟩))⟩)
  · exact hX _ _ (br_t rfl (hY _ _ (br_f ex_10 ⟨rfl, rfl, hB⟩)))
theorem i_vc_freeBlocks {k : Nat} {u : SX} {v : SY} (I : i_Rel k u v) (hk : k + 3 ≤ 1536) : wpX_freeBlocks (fun r => wpY_freeBlocks (fun r' => r' = r ∧ i_Rel (k + 3) u v) v) u := by
  obtain ⟨rfl, hB⟩ := I
  obtain ⟨r, hX, hY⟩ := ex_fb u 256 0 0 rfl
  rw [nI_0] at hX hY
  exact ⟨_, hX _ ⟨_, hY _ ⟨rfl, rfl, hB⟩⟩⟩
theorem i_vc_extents {k : Nat} {u : SX} {v : SY} (I : i_Rel k u v) (hk : k + 3 ≤ 1536) : wpX_extents (fun r => wpY_extents (fun r' => r' = r ∧ i_Rel (k + 3) u v) v) u := by
  obtain ⟨rfl, hB⟩ := I
  obtain ⟨r, hX, hY⟩ := ex_ext u 
  exact hX _ (hY _ ⟨rfl, rfl, hB⟩)
theorem i_vc_largest {k : Nat} {u : SX} {v : SY} (I : i_Rel k u v) (hk : k + 3 ≤ 1536) : wpX_largest (fun r => wpY_largest (fun r' => r' = r ∧ i_Rel (k + 3) u v) v) u := by
  obtain ⟨rfl, hB⟩ := I
  obtain ⟨r, hX, hY⟩ := ex_lgstA u 
  exact hX _ (hY _ ⟨rfl, rfl, hB⟩)
theorem i_vc_next {k : Nat} {u : SX} {v : SY} (I : i_Rel k u v) (hk : k + 3 ≤ 1536) (v1 : Int32) : wpX_next (fun r => wpY_next (fun r' => r' = r ∧ i_Rel (k + 3) u v) v v1) u v1 := by
  obtain ⟨rfl, hB⟩ := I
  rcases ex_blk v1 with ⟨b, hb, rfl⟩ | ⟨hX, hY⟩
  · obtain ⟨r, hX, hY⟩ := ex_nxt u (256 - b) b (by omega)
    exact ex_xB hb (br_f ex_10 ⟨_, hX _ (ex_yBB hb (br_t rfl ⟨_, hY _ ⟨rfl, rfl, hB⟩⟩))⟩)
  · exact hX _ _ (br_t rfl (hY _ _ (br_f ex_10 ⟨rfl, rfl, hB⟩)))
theorem i_vc_sizeAt {k : Nat} {u : SX} {v : SY} (I : i_Rel k u v) (hk : k + 3 ≤ 1536) (v1 : Int32) : wpX_sizeAt (fun r => wpY_sizeAt (fun r' => r' = r ∧ i_Rel (k + 3) u v) v v1) u v1 := by
  obtain ⟨rfl, hB⟩ := I
  obtain ⟨r, hX, hY⟩ := ex_szA u v1
  exact hX _ (hY _ ⟨rfl, rfl, hB⟩)
theorem i_vc_bySize {k : Nat} {u : SX} {v : SY} (I : i_Rel k u v) (hk : k + 3 ≤ 1536) (v1 : Int32) : wpX_bySize (fun r => wpY_bySize (fun r' => r' = r ∧ i_Rel (k + 3) u v) v v1) u v1 := by
  obtain ⟨rfl, hB⟩ := I
  obtain ⟨r, hX, hY⟩ := ex_by2 u v1 256 1 0 rfl
  rw [ex_one] at hX hY
  exact ⟨_, hX _ ⟨_, hY _ ⟨rfl, rfl, hB⟩⟩⟩
theorem i_vc_atLeast {k : Nat} {u : SX} {v : SY} (I : i_Rel k u v) (hk : k + 3 ≤ 1536) (v1 : Int32) : wpX_atLeast (fun r => wpY_atLeast (fun r' => r' = r ∧ i_Rel (k + 3) u v) v v1) u v1 := by
  obtain ⟨rfl, hB⟩ := I
  obtain ⟨r, hX, hY⟩ := ex_cntA u v1
  exact hX _ (hY _ ⟨rfl, rfl, hB⟩)
end EXH
end
