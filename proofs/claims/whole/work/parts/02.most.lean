section EXB
/-! the largest run, the first place that has it -/
def ex_max (a : Nat → Int32) (m : Nat) : Prop := (∀ q, q < 256 → ex_run a q ≤ m) ∧ (m = 0 ∨ ∃ q, q < 256 ∧ ex_run a q = m)
def ex_non (a : Nat → Int32) : Prop := ∀ q, q < 256 → ¬ ex_bg a q
def ex_fst (a : Nat → Int32) (p : Nat) : Prop := p < 256 ∧ ex_bg a p ∧ (∀ q, q < 256 → ex_bg a q → ex_run a q ≤ ex_run a p) ∧ (∀ q, q < p → ex_bg a q → ex_run a q < ex_run a p)
theorem ex_non_all {a : Nat → Int32} (h : ex_non a) : ∀ b, b < 256 → ¬ a b = 0 := by
  intro b hb z
  obtain ⟨q, h1, h2, _⟩ := ex_top b hb z
  exact h q (by omega) h2
theorem ex_max_0 {a : Nat → Int32} {m : Nat} (h : ex_non a) (hm : ex_max a m) : m = 0 := by
  rcases hm.2 with e | ⟨q, hq, e⟩
  · exact e
  · rw [ex_run_0 (ex_non_all h q hq)] at e
    exact e.symm
theorem ex_max_fst {a : Nat → Int32} {m p : Nat} (h : ex_fst a p) (hm : ex_max a m) : m = ex_run a p := by
  have h1 := hm.1 p h.1
  rcases hm.2 with e | ⟨q, hq, e⟩
  · omega
  · by_cases z : a q = 0
    · obtain ⟨t, t1, t2, t3⟩ := ex_top q hq z
      have := h.2.2.1 t (by omega) t2
      omega
    · rw [ex_run_0 z] at e
      omega
/-- what the scan downwards for a run of m gives -/
def ex_dn (a : Nat → Int32) (m j : Nat) (x : Int32) : Prop :=
  (x = -1 ∧ ∀ q, j ≤ q → q < 256 → ex_bg a q → ¬ ex_run a q = m) ∨
  ∃ p, x = nI p ∧ j ≤ p ∧ p < 256 ∧ ex_bg a p ∧ ex_run a p = m ∧ ∀ q, j ≤ q → q < p → ex_bg a q → ¬ ex_run a q = m
theorem ex_dn_end (a : Nat → Int32) (m : Nat) : ex_dn a m 256 (-1) := Or.inl ⟨rfl, fun q h1 h2 => absurd h2 (by omega)⟩
theorem ex_dn_hit {a : Nat → Int32} {m j : Nat} (hj : j < 256) (hb : ex_bg a j) (hr : ex_run a j = m) : ex_dn a m j (nI j) :=
  Or.inr ⟨j, rfl, Nat.le_refl _, hj, hb, hr, fun q h1 h2 => absurd h2 (by omega)⟩
theorem ex_dn_miss {a : Nat → Int32} {m j : Nat} {x : Int32} (h : ex_dn a m (j + 1) x) (hn : ex_bg a j → ¬ ex_run a j = m) : ex_dn a m j x := by
  rcases h with ⟨e, h⟩ | ⟨p, e, h1, h2, h3, h4, h5⟩
  · refine Or.inl ⟨e, fun q hq h6 h7 => ?_⟩
    by_cases eq : q = j
    · rw [eq] at h7 ⊢; exact hn h7
    · exact h q (by omega) h6 h7
  · refine Or.inr ⟨p, e, by omega, h2, h3, h4, fun q hq h6 h7 => ?_⟩
    by_cases eq : q = j
    · rw [eq] at h7 ⊢; exact hn h7
    · exact h5 q (by omega) h6 h7
theorem ex_dn_non {a : Nat → Int32} {m : Nat} {x : Int32} (h : ex_non a) (hd : ex_dn a m 0 x) : x = -1 := by
  rcases hd with ⟨e, _⟩ | ⟨p, _, _, h2, h3, _⟩
  · exact e
  · exact absurd h3 (h p h2)
theorem ex_dn_fst {a : Nat → Int32} {p : Nat} {x : Int32} (h : ex_fst a p) (hd : ex_dn a (ex_run a p) 0 x) : x = nI p := by
  rcases hd with ⟨_, hn⟩ | ⟨q, e, _, h2, h3, h4, h5⟩
  · exact absurd rfl (hn p (Nat.zero_le _) h.1 h.2.1)
  · have h6 : q = p := by
      rcases Nat.lt_trichotomy q p with l | l | l
      · have := h.2.2.2 q l h3
        omega
      · exact l
      · exact absurd rfl (h5 p (Nat.zero_le _) l h.2.1)
    rw [e, h6]
end EXB
