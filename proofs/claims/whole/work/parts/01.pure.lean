section EXA
/-! A: numbers -/
theorem ex_us {f : Nat → Int32} {k : Nat} {x : Int32} : upd f k x k = x := if_pos rfl
theorem ex_un {f : Nat → Int32} {k j : Nat} {x : Int32} (h : j ≠ k) : upd f k x j = f j := if_neg h
theorem ex_256 : nI 256 = 256 := by decide +kernel
theorem ex_255 : nI 255 = 255 := by decide +kernel
theorem ex_one : nI 1 = 1 := by decide +kernel
theorem ex_vb0 : vp_nar .boolean 0 = 0 := by decide
theorem ex_vb1 : vp_nar .boolean 1 = 1 := by decide
theorem ex_sub {a b : Nat} (h : b ≤ a) : nI a - nI b = nI (a - b) := by
  have e : nI a = nI (a - b) + nI b := by rw [nI_add]; congr 1; omega
  rw [e, Int32.add_sub_cancel]
theorem ex_m1 (n : Nat) : nI (n + 1) + (-1) = nI n := by
  rw [← nI_1, Int32.add_assoc, show (1 : Int32) + (-1) = 0 from rfl, Int32.add_zero]
theorem ex_dec {n : Nat} (h : 0 < n) : nI n + (-1) = nI (n - 1) := by
  obtain ⟨m, rfl⟩ : ∃ m, n = m + 1 := ⟨n - 1, by omega⟩
  exact ex_m1 m
theorem ex_dec' {n : Nat} (h : 0 < n) : nI n - 1 = nI (n - 1) := by
  obtain ⟨m, rfl⟩ : ∃ m, n = m + 1 := ⟨n - 1, by omega⟩
  exact nI_pred m
theorem ex_ne6 {a : Nat} (h : a < 2 ^ 31) : ¬ nI a = -6 := by
  intro e
  have := nI_pos (n := a) h
  rw [e] at this
  exact this (by decide)

/-! B: the free run from a block -/
def ex_rn (a : Nat → Int32) : Nat → Nat → Nat
  | 0, _ => 0
  | d + 1, b => if a b = 0 then ex_rn a d (b + 1) + 1 else 0
def ex_run (a : Nat → Int32) (b : Nat) : Nat := ex_rn a (256 - b) b
def ex_bg (a : Nat → Int32) (b : Nat) : Prop := a b = 0 ∧ (b = 0 ∨ ¬ a (b - 1) = 0)
theorem ex_rn_le (a : Nat → Int32) : ∀ d b, ex_rn a d b ≤ d := by
  intro d
  induction d with
  | zero => intro b; exact Nat.le_refl 0
  | succ d ih =>
    intro b
    show (if a b = 0 then ex_rn a d (b + 1) + 1 else 0) ≤ d + 1
    have := ih (b + 1)
    split <;> omega
theorem ex_run_le (a : Nat → Int32) (b : Nat) : ex_run a b ≤ 256 - b := ex_rn_le a _ b
theorem ex_run_end {a : Nat → Int32} {b : Nat} (h : 256 ≤ b) : ex_run a b = 0 := by
  have := ex_run_le a b
  omega
theorem ex_run_s {a : Nat → Int32} {b : Nat} (hb : b < 256) (h : a b = 0) : ex_run a b = ex_run a (b + 1) + 1 := by
  unfold ex_run
  obtain ⟨d, hd⟩ : ∃ d, 256 - b = d + 1 := ⟨255 - b, by omega⟩
  have e : 256 - (b + 1) = d := by omega
  rw [hd, e]
  exact if_pos h
theorem ex_run_0 {a : Nat → Int32} {b : Nat} (h : ¬ a b = 0) : ex_run a b = 0 := by
  unfold ex_run
  cases e : 256 - b with
  | zero => rfl
  | succ d => exact if_neg h
theorem ex_run_pos {a : Nat → Int32} {b : Nat} (hb : b < 256) (h : a b = 0) : 0 < ex_run a b := by
  rw [ex_run_s hb h]; omega
theorem ex_top {a : Nat → Int32} : ∀ b, b < 256 → a b = 0 → ∃ q, q ≤ b ∧ ex_bg a q ∧ ex_run a b ≤ ex_run a q := by
  intro b
  induction b with
  | zero => intro _ h; exact ⟨0, Nat.le_refl 0, ⟨h, Or.inl rfl⟩, Nat.le_refl _⟩
  | succ b ih =>
    intro hb h
    by_cases z : a b = 0
    · obtain ⟨q, h1, h2, h3⟩ := ih (by omega) z
      refine ⟨q, by omega, h2, ?_⟩
      have := ex_run_s (a := a) (b := b) (by omega) z
      omega
    · exact ⟨b + 1, Nat.le_refl _, ⟨h, Or.inr z⟩, Nat.le_refl _⟩

/-! C: stores -/
def ex_st (v : Int32) : Nat → Nat → (Nat → Int32) → Nat → Int32
  | 0, _, a => a
  | d + 1, b, a => ex_st v d (b + 1) (upd a b v)
def ex_B (a : Nat → Int32) : Prop := ∀ j, a j = 0 ∨ a j = 1
theorem ex_B_upd {a : Nat → Int32} {v : Int32} {k : Nat} (hv : v = 0 ∨ v = 1) (h : ex_B a) : ex_B (upd a k v) := by
  intro j
  by_cases e : j = k
  · rw [e, ex_us]; exact hv
  · rw [ex_un e]; exact h j
theorem ex_B_st {v : Int32} (hv : v = 0 ∨ v = 1) : ∀ d b a, ex_B a → ex_B (ex_st v d b a) := by
  intro d
  induction d with
  | zero => intro b a h; exact h
  | succ d ih => intro b a h; exact ih _ _ (ex_B_upd hv h)
theorem ex_upd0 (b : Nat) : upd (fun _ => 0) b 0 = fun _ => 0 := by
  funext j
  by_cases e : j = b
  · rw [e, ex_us]
  · rw [ex_un e]
theorem ex_st0 : ∀ d b, ex_st 0 d b (fun _ => 0) = fun _ => 0 := by
  intro d
  induction d with
  | zero => intro b; rfl
  | succ d ih =>
    intro b
    show ex_st 0 d (b + 1) (upd (fun _ => 0) b 0) = _
    rw [ex_upd0]; exact ih _

/-! D: the place below a free block -/
def ex_pl (a : Nat → Int32) : Nat → Nat
  | 0 => 0
  | b + 1 => if a b = 0 then ex_pl a b else b + 1
theorem ex_pl_le (a : Nat → Int32) : ∀ b, ex_pl a b ≤ b := by
  intro b
  induction b with
  | zero => exact Nat.le_refl 0
  | succ b ih =>
    show (if a b = 0 then ex_pl a b else b + 1) ≤ b + 1
    split <;> omega
theorem ex_pl_t {a : Nat → Int32} {b : Nat} (h : a b = 0) : ex_pl a (b + 1) = ex_pl a b := if_pos h
theorem ex_pl_f {a : Nat → Int32} {b : Nat} (h : ¬ a b = 0) : ex_pl a (b + 1) = b + 1 := if_neg h
end EXA
