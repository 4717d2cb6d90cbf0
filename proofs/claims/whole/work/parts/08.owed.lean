section EXH
def i_Rel (k : Nat) (u : SX) (v : SY) : Prop := u = v ∧ ex_B u
theorem i_up {k : Nat} {u : SX} {v : SY} (h : i_Rel k u v) : i_Rel (k + 3) u v := h
theorem i_vc0 : wpX_init (fun u => wpY_init (fun v => i_Rel 0 u v)) := by
  have h : wpX_setAll (fun u => wpY_init (fun v => i_Rel 0 u v)) (fun _ => 0) (nI 0) (nI 256) 0 := by
    refine ex_xS ex_vb0 (by omega) ?_
    rw [ex_st0]
    exact ⟨rfl, fun _ => Or.inl rfl⟩
  rw [nI_0, ex_256] at h
  exact h
theorem i_vc_take {k : Nat} {u : SX} {v : SY} (I : i_Rel k u v) (hk : k + 3 ≤ 1536) (v1 : Int32) : wpX_take (fun r u' => wpY_take (fun r' v' => r' = r ∧ i_Rel (k + 3) u' v') v v1) u v1 := by
  obtain ⟨rfl, hB⟩ := I
  obtain ⟨r, a1, hB1, hX, hY⟩ := ex_takeA u hB v1
  exact hX _ (hY _ ⟨rfl, rfl, hB1⟩)
theorem i_vc_takeNear {k : Nat} {u : SX} {v : SY} (I : i_Rel k u v) (hk : k + 3 ≤ 1536) (v1 : Int32) (v2 : Int32) : wpX_takeNear (fun r u' => wpY_takeNear (fun r' v' => r' = r ∧ i_Rel (k + 3) u' v') v v1 v2) u v1 v2 := by
  obtain ⟨rfl, hB⟩ := I
  obtain ⟨r, a1, hB1, hX, hY⟩ := ex_nearA u hB v1 v2
  exact hX _ (hY _ ⟨rfl, rfl, hB1⟩)
theorem i_vc_takeAt {k : Nat} {u : SX} {v : SY} (I : i_Rel k u v) (hk : k + 3 ≤ 1536) (v1 : Int32) (v2 : Int32) : wpX_takeAt (fun r u' => wpY_takeAt (fun r' v' => r' = r ∧ i_Rel (k + 3) u' v') v v1 v2) u v1 v2 := by
  obtain ⟨rfl, hB⟩ := I
  obtain ⟨r, a1, hB1, hX, hY⟩ := ex_atA u hB v1 v2
  exact hX _ (hY _ ⟨rfl, rfl, hB1⟩)
theorem i_vc_give {k : Nat} {u : SX} {v : SY} (I : i_Rel k u v) (hk : k + 3 ≤ 1536) (v1 : Int32) (v2 : Int32) : wpX_give (fun r u' => wpY_give (fun r' v' => r' = r ∧ i_Rel (k + 3) u' v') v v1 v2) u v1 v2 := by
  obtain ⟨rfl, hB⟩ := I
  obtain ⟨r, a1, hB1, hX, hY⟩ := ex_gvA u hB v1 v2
  exact hX _ (hY _ ⟨rfl, rfl, hB1⟩)
theorem i_vc_takePieces {k : Nat} {u : SX} {v : SY} (I : i_Rel k u v) (hk : k + 3 ≤ 1536) (v1 : Int32) : wpX_takePieces (fun r u' => wpY_takePieces (fun r' v' => r' = r ∧ i_Rel (k + 3) u' v') v v1) u v1 := by
  obtain ⟨rfl, hB⟩ := I
  obtain ⟨r, a1, hB1, hX, hY⟩ := ex_pcA u hB v1
  exact hX _ (hY _ ⟨rfl, rfl, hB1⟩)
theorem i_vc_clear {k : Nat} {u : SX} {v : SY} (I : i_Rel k u v) (hk : k + 3 ≤ 1536) : wpX_clear (fun u' => wpY_clear (fun v' => i_Rel (k + 3) u' v') v) u := by
  obtain ⟨rfl, hB⟩ := I
  have h : wpX_setAll (fun u' => wpY_mark (fun v' => i_Rel (k + 3) u' v') u (nI 0) (nI 256) 0) u (nI 0) (nI 256) 0 := by
    refine ex_xS ex_vb0 (by omega) (ex_yS ex_vb0 (by omega) ?_)
    exact ⟨rfl, ex_B_st (Or.inl rfl) _ _ _ hB⟩
  rw [nI_0, ex_256] at h
  exact h
theorem i_vc_free {k : Nat} {u : SX} {v : SY} (I : i_Rel k u v) (hk : k + 3 ≤ 1536) (v1 : Int32) : wpX_free (fun r => wpY_free (fun r' => r' = r ∧ i_Rel (k + 3) u v) v v1) u v1 := by
  obtain ⟨rfl, hB⟩ := I
  rcases ex_blk v1 with ⟨b, hb, rfl⟩ | ⟨hX, hY⟩
  · have hi : vp_in (nI b) 256 := vp_in_nI hb (by omega)
    by_cases z : u b = 0
    · exact ex_xB hb (br_f ex_10 ⟨hi, br_t (ex_z (by omega) z) (ex_yBB hb (br_t rfl ⟨hi, br_t (ex_z (by omega) z) ⟨rfl, rfl, hB⟩⟩))⟩)
    · exact ex_xB hb (br_f ex_10 ⟨hi, br_f (ex_nz (by omega) z) (ex_yBB hb (br_t rfl ⟨hi, br_f (ex_nz (by omega) z) ⟨rfl, rfl, hB⟩⟩))⟩)
  · exact hX _ _ (br_t rfl (hY _ _ (br_f ex_10 ⟨rfl, rfl, hB⟩)))
theorem i_vc_freeBlocks {k : Nat} {u : SX} {v : SY} (I : i_Rel k u v) (hk : k + 3 ≤ 1536) : wpX_freeBlocks (fun r => wpY_freeBlocks (fun r' => r' = r ∧ i_Rel (k + 3) u v) v) u := by
  obtain ⟨rfl, hB⟩ := I
  obtain ⟨r, hX, hY⟩ := ex_fb u 256 0 0 rfl
  rw [nI_0] at hX hY
  exact ⟨_, hX _ ⟨_, hY _ ⟨rfl, rfl, hB⟩⟩⟩
theorem i_vc_extents {k : Nat} {u : SX} {v : SY} (I : i_Rel k u v) (hk : k + 3 ≤ 1536) : wpX_extents (fun r => wpY_extents (fun r' => r' = r ∧ i_Rel (k + 3) u v) v) u := by
  obtain ⟨rfl, hB⟩ := I
  obtain ⟨r, hX, hY⟩ := ex_ext u 
  exact hX _ (hY _ ⟨rfl, rfl, hB⟩)
theorem i_vc_largest {k : Nat} {u : SX} {v : SY} (I : i_Rel k u v) (hk : k + 3 ≤ 1536) : wpX_largest (fun r => wpY_largest (fun r' => r' = r ∧ i_Rel (k + 3) u v) v) u := by
  obtain ⟨rfl, hB⟩ := I
  obtain ⟨r, hX, hY⟩ := ex_lgstA u 
  exact hX _ (hY _ ⟨rfl, rfl, hB⟩)
theorem i_vc_next {k : Nat} {u : SX} {v : SY} (I : i_Rel k u v) (hk : k + 3 ≤ 1536) (v1 : Int32) : wpX_next (fun r => wpY_next (fun r' => r' = r ∧ i_Rel (k + 3) u v) v v1) u v1 := by
  obtain ⟨rfl, hB⟩ := I
  rcases ex_blk v1 with ⟨b, hb, rfl⟩ | ⟨hX, hY⟩
  · obtain ⟨r, hX, hY⟩ := ex_nxt u (256 - b) b (by omega)
    exact ex_xB hb (br_f ex_10 ⟨_, hX _ (ex_yBB hb (br_t rfl ⟨_, hY _ ⟨rfl, rfl, hB⟩⟩))⟩)
  · exact hX _ _ (br_t rfl (hY _ _ (br_f ex_10 ⟨rfl, rfl, hB⟩)))
theorem i_vc_sizeAt {k : Nat} {u : SX} {v : SY} (I : i_Rel k u v) (hk : k + 3 ≤ 1536) (v1 : Int32) : wpX_sizeAt (fun r => wpY_sizeAt (fun r' => r' = r ∧ i_Rel (k + 3) u v) v v1) u v1 := by
  obtain ⟨rfl, hB⟩ := I
  obtain ⟨r, hX, hY⟩ := ex_szA u v1
  exact hX _ (hY _ ⟨rfl, rfl, hB⟩)
theorem i_vc_bySize {k : Nat} {u : SX} {v : SY} (I : i_Rel k u v) (hk : k + 3 ≤ 1536) (v1 : Int32) : wpX_bySize (fun r => wpY_bySize (fun r' => r' = r ∧ i_Rel (k + 3) u v) v v1) u v1 := by
  obtain ⟨rfl, hB⟩ := I
  obtain ⟨r, hX, hY⟩ := ex_by2 u v1 256 1 0 rfl
  rw [ex_one] at hX hY
  exact ⟨_, hX _ ⟨_, hY _ ⟨rfl, rfl, hB⟩⟩⟩
theorem i_vc_atLeast {k : Nat} {u : SX} {v : SY} (I : i_Rel k u v) (hk : k + 3 ≤ 1536) (v1 : Int32) : wpX_atLeast (fun r => wpY_atLeast (fun r' => r' = r ∧ i_Rel (k + 3) u v) v v1) u v1 := by
  obtain ⟨rfl, hB⟩ := I
  obtain ⟨r, hX, hY⟩ := ex_cntA u v1
  exact hX _ (hY _ ⟨rfl, rfl, hB⟩)
end EXH
