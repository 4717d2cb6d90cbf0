section EXG
/-! largest, takePieces -/
def ex_lpI (a : Nat → Int32) (j : Nat) (b s : Int32) : Prop :=
  (b = -6 ∧ s = 0 ∧ ∀ q, q < j → ¬ ex_bg a q) ∨
  ∃ p, p < j ∧ b = nI p ∧ s = nI (ex_run a p) ∧ ex_bg a p ∧ (∀ q, q < j → ex_bg a q → ex_run a q ≤ ex_run a p) ∧ (∀ q, q < p → ex_bg a q → ex_run a q < ex_run a p)
def ex_lpF (a : Nat → Int32) (r : Int32) : Prop := (r = -6 ∧ ex_non a) ∨ ∃ p, r = nI p ∧ ex_fst a p
theorem ex_lpS {a : Nat → Int32} {j : Nat} {b s : Int32} (h : ex_lpI a j b s) (hj : ex_bg a j → (∃ p, b = nI p ∧ p < j ∧ ex_run a j ≤ ex_run a p)) (hlt : j < 256) : ex_lpI a (j + 1) b s := by
  rcases h with ⟨e, e', h⟩ | ⟨p, hp, e, e', h1, h2, h3⟩
  · refine Or.inl ⟨e, e', fun q hq hb => ?_⟩
    by_cases c : q = j
    · rw [c] at hb
      obtain ⟨p, ep, hp, _⟩ := hj hb
      rw [e] at ep
      exact ex_ne6 (by omega) ep.symm
    · exact h q (by omega) hb
  · refine Or.inr ⟨p, by omega, e, e', h1, fun q hq hb => ?_, h3⟩
    by_cases c : q = j
    · rw [c] at hb ⊢
      obtain ⟨p', ep, hp', hr⟩ := hj hb
      rw [e] at ep
      have : p = p' := (nI_eq (by omega) (by omega)).mp ep
      rw [this]; exact hr
    · exact h2 q (by omega) hb
theorem ex_lp (a : Nat → Int32) : ∀ d j b s, j + d = 256 → ex_lpI a j b s → ∃ r, ex_lpF a r ∧ ∀ post : Int32 → Prop, post r → wX_largestPlace_7 post a (d + 1) b s (nI j) := by
  intro d
  induction d with
  | zero =>
    intro j b s hj h
    obtain rfl : j = 256 := by omega
    refine ⟨b, ?_, fun _ h => br_t ex_ge256 h⟩
    rcases h with ⟨e, _, h⟩ | ⟨p, hp, e, _, h1, h2, h3⟩
    · exact Or.inl ⟨e, h⟩
    · exact Or.inr ⟨p, e, hp, h1, h2, h3⟩
  | succ d ih =>
    intro j b s hj h
    have hl : j < 256 := by omega
    have hl' : j ≤ 256 := by omega
    by_cases hb : ex_bg a j
    · have hpos := ex_run_pos hl hb.1
      have hle := ex_run_le a j
      have new : (¬ nI (ex_run a j) ≤ s) → ex_lpI a (j + 1) (nI j) (nI (ex_run a j)) → ∃ r, ex_lpF a r ∧ ∀ post : Int32 → Prop, post r → wX_largestPlace_7 post a (d + 1 + 1) b s (nI j) := by
        intro c hI
        obtain ⟨r, h1, hX⟩ := ih (j + 1) _ _ (by omega) hI
        exact ⟨r, h1, fun post h => br_f (ex_lt256 hl) (ex_xP1 hl hb (br_f ex_10 (ex_xR hl' (br_f c (nm_r (nI_1 j) (hX post h))))))⟩
      rcases h with ⟨e, e', h⟩ | ⟨p, hp, e, e', h1, h2, h3⟩
      · refine new (by rw [e']; exact nI_nle hpos (by omega)) (Or.inr ⟨j, by omega, rfl, rfl, hb, fun q hq hbq => ?_, fun q hq hbq => absurd hbq (h q hq)⟩)
        by_cases c : q = j
        · rw [c]; exact Nat.le_refl _
        · exact absurd hbq (h q (by omega))
      · have hlp := ex_run_le a p
        by_cases c : ex_run a j ≤ ex_run a p
        · have hI : ex_lpI a (j + 1) b s := ex_lpS (Or.inr ⟨p, hp, e, e', h1, h2, h3⟩) (fun _ => ⟨p, e, hp, c⟩) hl
          obtain ⟨r, k1, hX⟩ := ih (j + 1) b s (by omega) hI
          have c' : nI (ex_run a j) ≤ s := by rw [e']; exact nI_le c (by omega)
          exact ⟨r, k1, fun post h => br_f (ex_lt256 hl) (ex_xP1 hl hb (br_f ex_10 (ex_xR hl' (br_t c' (nm_r (nI_1 j) (hX post h))))))⟩
        · refine new (by rw [e']; exact nI_ge (by omega) (by omega)) (Or.inr ⟨j, by omega, rfl, rfl, hb, fun q hq hbq => ?_, fun q hq hbq => ?_⟩)
          · by_cases cq : q = j
            · rw [cq]; exact Nat.le_refl _
            · have := h2 q (by omega) hbq
              omega
          · have := h2 q hq hbq
            omega
    · obtain ⟨r, h1, hX⟩ := ih (j + 1) b s (by omega) (ex_lpS h (fun k => absurd k hb) hl)
      exact ⟨r, h1, fun post h => br_f (ex_lt256 hl) (ex_xP0 hl hb (br_t rfl (nm_r (nI_1 j) (hX post h))))⟩
theorem ex_lpA (a : Nat → Int32) : ∃ r, ex_lpF a r ∧ ∀ post : Int32 → Prop, post r → wpX_largestPlace post a := by
  obtain ⟨r, h, hX⟩ := ex_lp a 256 0 (-6) 0 rfl (Or.inl ⟨rfl, rfl, fun q hq => absurd hq (by omega)⟩)
  rw [nI_0] at hX
  exact ⟨r, h, fun post h => ⟨_, hX post h⟩⟩
theorem ex_lg (a : Nat → Int32) : ∀ d j m, j + d = 256 → m ≤ 256 → (∀ q, q < j → ex_run a q ≤ m) → (m = 0 ∨ ∃ q, q < 256 ∧ ex_run a q = m) → ∃ m', ex_max a m' ∧ m' ≤ 256 ∧ ∀ post : Int32 → Prop, post (nI m') → wY_largest_4 post a (d + 1) (nI m) (nI j) := by
  intro d
  induction d with
  | zero =>
    intro j m hj hm h1 h2
    obtain rfl : j = 256 := by omega
    exact ⟨m, ⟨h1, h2⟩, hm, fun _ h => br_t ex_ge256 h⟩
  | succ d ih =>
    intro j m hj hm h1 h2
    have hl : j < 256 := by omega
    have hle := ex_run_le a j
    by_cases c : ex_run a j ≤ m
    · obtain ⟨m', k1, k2, hY⟩ := ih (j + 1) m (by omega) hm (fun q hq => by
        by_cases e : q = j
        · rw [e]; exact c
        · exact h1 q (by omega)) h2
      have c' : nI (ex_run a j) ≤ nI m := nI_le c (by omega)
      exact ⟨m', k1, k2, fun post h => br_f (ex_lt256 hl) (ex_yR (by omega) (br_t c' (nm_r (nI_1 j) (hY post h))))⟩
    · obtain ⟨m', k1, k2, hY⟩ := ih (j + 1) (ex_run a j) (by omega) (by omega) (fun q hq => by
        by_cases e : q = j
        · rw [e]; exact Nat.le_refl _
        · have := h1 q (by omega)
          omega) (Or.inr ⟨j, hl, rfl⟩)
      have c' : ¬ nI (ex_run a j) ≤ nI m := nI_ge (by omega) (by omega)
      exact ⟨m', k1, k2, fun post h => br_f (ex_lt256 hl) (ex_yR (by omega) (br_f c' (nm_r (nI_1 j) (hY post h))))⟩
theorem ex_lgA (a : Nat → Int32) : ∃ m, ex_max a m ∧ m ≤ 256 ∧ ∀ post : Int32 → Prop, post (nI m) → wpY_largest post a := by
  obtain ⟨m, h1, h2, hY⟩ := ex_lg a 256 0 0 rfl (by omega) (fun q hq => absurd hq (by omega)) (Or.inl rfl)
  rw [nI_0] at hY
  exact ⟨m, h1, h2, fun post h => ⟨_, hY post h⟩⟩
theorem ex_lgstA (a : Nat → Int32) : ∃ r : Int32, (∀ post : Int32 → Prop, post r → wpX_largest post a) ∧ (∀ post : Int32 → Prop, post r → wpY_largest post a) := by
  obtain ⟨r, h, hX⟩ := ex_lpA a
  obtain ⟨m, h1, h2, hY⟩ := ex_lgA a
  refine ⟨nI m, fun post k => ?_, hY⟩
  rcases h with ⟨e, h⟩ | ⟨p, e, h⟩
  · subst e
    rw [ex_max_0 h h1, nI_0] at k
    exact hX _ (br_t rfl k)
  · subst e
    have hp := h.1
    rw [ex_max_fst h h1] at k
    exact hX _ (br_f (ex_ne6 (by omega)) (ex_xR (by omega) k))
theorem ex_dnL (a : Nat → Int32) (m : Nat) (hm : m ≤ 256) : ∀ j x, j ≤ 256 → ex_dn a m j x → ∃ r, ex_dn a m 0 r ∧ ∀ (post : Int32 → SY → Prop) (J : Int32 → Int32 → (Nat → Int32) → Prop) (x1 x2 x3 : Int32), wY_takePieces_41 post J x1 x2 x3 (nI m) a 1 r (-1) → wY_takePieces_41 post J x1 x2 x3 (nI m) a (j + 1) x (nI j + (-1)) := by
  intro j
  induction j with
  | zero =>
    intro x _ h
    have e : nI 0 + (-1) = -1 := by rw [nI_0]; decide
    rw [e]
    exact ⟨x, h, fun _ _ _ _ _ k => k⟩
  | succ g ih =>
    intro x hj h
    have hl : g < 256 := by omega
    have hl' : g ≤ 256 := by omega
    have hr := ex_run_le a g
    rw [ex_m1]
    by_cases hb : ex_bg a g
    · by_cases c : ex_run a g = m
      · obtain ⟨r, k, hY⟩ := ih (nI g) (by omega) (ex_dn_hit hl hb c)
        have c' : nI (ex_run a g) = nI m := by rw [c]
        exact ⟨r, k, fun post J x1 x2 x3 h => br_f (nI_pos (by omega)) (ex_yP1 hl hb (br_f ex_10 (ex_yR hl' (br_t c' (nm_e (hY post J x1 x2 x3 h))))))⟩
      · obtain ⟨r, k, hY⟩ := ih x (by omega) (ex_dn_miss h (fun _ => c))
        have c' : ¬ nI (ex_run a g) = nI m := fun e => c ((nI_eq (by omega) (by omega)).mp e)
        exact ⟨r, k, fun post J x1 x2 x3 h => br_f (nI_pos (by omega)) (ex_yP1 hl hb (br_f ex_10 (ex_yR hl' (br_f c' (nm_e (hY post J x1 x2 x3 h))))))⟩
    · obtain ⟨r, k, hY⟩ := ih x (by omega) (ex_dn_miss h (fun h => absurd h hb))
      exact ⟨r, k, fun post J x1 x2 x3 h => br_f (nI_pos (by omega)) (ex_yP0 hl hb (br_t rfl (nm_e (hY post J x1 x2 x3 h))))⟩
theorem ex_m1l : (-1 : Int32) < 0 := by decide
/-- what Y finds in one turn: the same as X -/
theorem ex_turn (a : Nat → Int32) : (ex_non a ∧ ∀ (post : Int32 → SY → Prop) (J : Int32 → Int32 → (Nat → Int32) → Prop) (x1 x2 x3 : Int32), J x2 (x3 + 1) a → wpY_largest (fun r => ∃ n : Nat, wY_takePieces_41 post J x1 x2 x3 r a n (-1) 255) a) ∨
    (∃ p, ex_fst a p ∧ ∀ (post : Int32 → SY → Prop) (J : Int32 → Int32 → (Nat → Int32) → Prop) (x1 x2 x3 : Int32), wY_takePieces_41 post J x1 x2 x3 (nI (ex_run a p)) a 1 (nI p) (-1) → wpY_largest (fun r => ∃ n : Nat, wY_takePieces_41 post J x1 x2 x3 r a n (-1) 255) a) := by
  obtain ⟨r, h, _⟩ := ex_lpA a
  obtain ⟨m, h1, h2, hY⟩ := ex_lgA a
  obtain ⟨q, k, hD⟩ := ex_dnL a m h2 256 (-1) (Nat.le_refl _) (ex_dn_end a m)
  have e255 : nI 256 + (-1) = 255 := by rw [ex_256]; decide
  rw [e255] at hD
  rcases h with ⟨_, h⟩ | ⟨p, _, h⟩
  · left
    refine ⟨h, fun post J x1 x2 x3 hJ => hY _ ⟨_, hD post J x1 x2 x3 ?_⟩⟩
    rw [ex_dn_non h k]
    exact br_t ex_m1l (br_t ex_m1l (nm_e hJ))
  · right
    have e := ex_max_fst h h1
    subst e
    refine ⟨p, h, fun post J x1 x2 x3 hJ => hY _ ⟨_, hD post J x1 x2 x3 ?_⟩⟩
    rw [ex_dn_fst h k]
    exact hJ
theorem ex_idle {a : Nat → Int32} (hn : ex_non a) {post : Int32 → SY → Prop} {x g : Int32} (h : post g a) : ∀ d k, k + d = 256 → wY_takePieces_15 post x (d + 1) g (nI k) a := by
  intro d
  induction d with
  | zero =>
    intro k hk
    obtain rfl : k = 256 := by omega
    exact br_t ex_ge256 h
  | succ d ih =>
    intro k hk
    refine br_f (ex_lt256 (by omega)) (br_c (fun _ => h) (fun _ => ?_))
    rcases ex_turn a with ⟨_, hY⟩ | ⟨p, hp, _⟩
    · refine hY _ _ _ _ _ ?_
      rw [nI_1]
      exact ih (k + 1) (by omega)
    · exact absurd hp.2.1 (hn p hp.1)
theorem ex_pc {n : Nat} (hn : n ≤ 256) : ∀ d k g a, k + d = 256 → ex_B a → g ≤ n → ∃ (r : Int32) (a1 : Nat → Int32), ex_B a1 ∧ (∀ post : Int32 → SX → Prop, post r a1 → wX_takePieces_15 post (nI n) (d + 1) (nI g) (nI k) a) ∧ (∀ post : Int32 → SY → Prop, post r a1 → wY_takePieces_15 post (nI n) (d + 1) (nI g) (nI k) a) := by
  intro d
  induction d with
  | zero =>
    intro k g a hk hB hg
    obtain rfl : k = 256 := by omega
    exact ⟨nI g, a, hB, fun _ h => br_t ex_ge256 h, fun _ h => br_t ex_ge256 h⟩
  | succ d ih =>
    intro k g a hk hB hg
    have hl : k < 256 := by omega
    by_cases c : n ≤ g
    · have c' : nI n ≤ nI g := nI_le c (by omega)
      exact ⟨nI g, a, hB, fun _ h => br_f (ex_lt256 hl) (br_t c' h), fun _ h => br_f (ex_lt256 hl) (br_t c' h)⟩
    · have c' : ¬ nI n ≤ nI g := nI_ge (by omega) (by omega)
      obtain ⟨r, h, hX⟩ := ex_lpA a
      rcases h with ⟨e, h⟩ | ⟨p, e, h⟩
      · subst e
        exact ⟨nI g, a, hB, fun _ h => br_f (ex_lt256 hl) (br_f c' (hX _ (br_t rfl h))), fun _ k1 => ex_idle h k1 (d + 1) k hk⟩
      · subst e
        have hp := h.1
        have hrl := ex_run_le a p
        rcases ex_turn a with ⟨hno, _⟩ | ⟨p', h', hY⟩
        · exact absurd h.2.1 (hno p hp)
        · have epp : p' = p := by
            rcases Nat.lt_trichotomy p' p with l | l | l
            · have t1 := h.2.2.2 p' l h'.2.1
              have t2 := h'.2.2.1 p hp h.2.1
              omega
            · exact l
            · have t1 := h'.2.2.2 p l h.2.1
              have t2 := h.2.2.1 p' h'.1 h'.2.1
              omega
          subst epp
          have en : nI n - nI g = nI (n - g) := ex_sub (by omega)
          by_cases w : n - g ≤ ex_run a p'
          · have w' : nI (n - g) ≤ nI (ex_run a p') := nI_le w (by omega)
            have w2 : nI n - nI g ≤ nI (ex_run a p') := by rw [en]; exact w'
            obtain ⟨r, a1, hB1, kX, kY⟩ := ih (k + 1) (g + (n - g)) (ex_st 1 (n - g) p' a) (by omega) (ex_B_st (Or.inr rfl) _ _ _ hB) (by omega)
            refine ⟨r, a1, hB1, fun post t => br_f (ex_lt256 hl) (br_f c' (hX _ (br_f (ex_ne6 (by omega)) (ex_xR (by omega) (nm_r en (br_t w' ?_)))))),
              fun post t => br_f (ex_lt256 hl) (br_f c' (hY _ _ _ _ _ (br_t ex_m1l (br_f (nI_pos (by omega)) (br_t w2 ?_)))))⟩
            · exact ex_xS ex_vb1 (by omega) (nm_r (nI_add g (n - g)) (nm_r (nI_1 k) (kX post t)))
            · rw [en]
              exact ex_yS ex_vb1 (by omega) (nm_r (nI_add g (n - g)) (nm_r (nI_1 k) (kY post t)))
          · have w' : ¬ nI (n - g) ≤ nI (ex_run a p') := nI_ge (by omega) (by omega)
            have w2 : ¬ nI n - nI g ≤ nI (ex_run a p') := by rw [en]; exact w'
            obtain ⟨r, a1, hB1, kX, kY⟩ := ih (k + 1) (g + ex_run a p') (ex_st 1 (ex_run a p') p' a) (by omega) (ex_B_st (Or.inr rfl) _ _ _ hB) (by omega)
            refine ⟨r, a1, hB1, fun post t => br_f (ex_lt256 hl) (br_f c' (hX _ (br_f (ex_ne6 (by omega)) (ex_xR (by omega) (nm_r en (br_f w' ?_)))))),
              fun post t => br_f (ex_lt256 hl) (br_f c' (hY _ _ _ _ _ (br_t ex_m1l (br_f (nI_pos (by omega)) (br_f w2 ?_)))))⟩
            · exact ex_xS ex_vb1 (by omega) (nm_r (nI_add g (ex_run a p')) (nm_r (nI_1 k) (kX post t)))
            · exact ex_yS ex_vb1 (by omega) (nm_r (nI_add g (ex_run a p')) (nm_r (nI_1 k) (kY post t)))
theorem ex_pcA (a : Nat → Int32) (hB : ex_B a) (x : Int32) : ∃ (r : Int32) (a1 : Nat → Int32), ex_B a1 ∧ (∀ post : Int32 → SX → Prop, post r a1 → wpX_takePieces post a x) ∧ (∀ post : Int32 → SY → Prop, post r a1 → wpY_takePieces post a x) := by
  rcases ex_size x with ⟨n, h1, h2, rfl⟩ | ⟨hX, hY⟩
  · obtain ⟨r, a1, hB1, hX, hY⟩ := ex_pc h2 256 0 0 a rfl hB (Nat.zero_le _)
    rw [nI_0] at hX hY
    exact ⟨r, a1, hB1, fun post h => ex_xSz h1 h2 (br_f ex_10 ⟨_, hX post h⟩), fun post h => ex_ySz h1 h2 (br_t rfl ⟨_, hY post h⟩)⟩
  · exact ⟨-2, a, hB, fun post h => hX _ _ (br_t rfl h), fun post h => hY _ _ (br_f ex_10 h)⟩
end EXG
