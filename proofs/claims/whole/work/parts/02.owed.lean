/-- the class holds no state; the reference's two tables are what its constructor made -/
def i_Rel (k : Nat) (u : SX) (v : SY) : Prop := ds_Tab 30 v.1 v.2
theorem i_up {k : Nat} {u : SX} {v : SY} (h : i_Rel k u v) : i_Rel (k + 3) u v := h
theorem i_vc0 : wpX_init (fun u => wpY_init (fun v => i_Rel 0 u v)) := by
  unfold wpX_init wpY_init
  refine ⟨31, ?_⟩
  have h := ds_init (post := fun v => i_Rel 0 () v) (fun a e h => h) 30 0 (fun _ => 0) (fun _ => 0) rfl (fun j hj => absurd hj (Nat.not_lt_zero j))
  rw [ds_B0, nI_0] at h
  exact h
theorem i_vc_slot {k : Nat} {u : SX} {v : SY} (I : i_Rel k u v) (hk : k + 3 ≤ 1536) (v1 : Int32) : wpX_slot (fun r => wpY_slot (fun r' => r' = r ∧ i_Rel (k + 3) u v) v v1) u v1 := by
  obtain ⟨a, e⟩ := v
  obtain ⟨r, hX, hY, _, _⟩ := ds_slots (a := a) (e := e) I v1
  exact hX _ u (hY _ ⟨rfl, I⟩)
theorem i_vc_extra {k : Nat} {u : SX} {v : SY} (I : i_Rel k u v) (hk : k + 3 ≤ 1536) (v1 : Int32) : wpX_extra (fun r => wpY_extra (fun r' => r' = r ∧ i_Rel (k + 3) u v) v v1) u v1 := by
  obtain ⟨a, e⟩ := v
  obtain ⟨r, hX, hY, hF, hT⟩ := ds_slots (a := a) (e := e) I v1
  unfold wpX_extra wpY_extra
  dsimp only
  refine ds_dist (fun c => br_t rfl ?_) (fun c1 c2 => br_f (by decide) ?_)
  · cases hF c
    exact hY _ (br_f (by decide) ⟨rfl, I⟩)
  · obtain ⟨j, hj, rfl⟩ := hT c1 c2
    have hi : vp_in (nI j) 30 := vp_in_nI hj (by decide)
    refine hX _ _ (ds_base hj (nm_e (ds_width hj (hY _ (br_t (nI_pos' (by omega)) ⟨hi, hi, ?_, I⟩)))))
    have ea : a j = ds_B j := (I j hj).1
    have ew : e j = ds_W j := (I j hj).2
    rw [nI_clamp (by omega), ea, ew]
theorem i_vc_join {k : Nat} {u : SX} {v : SY} (I : i_Rel k u v) (hk : k + 3 ≤ 1536) (v1 : Int32) (v2 : Int32) : wpX_join (fun r => wpY_join (fun r' => r' = r ∧ i_Rel (k + 3) u v) v v1 v2) u v1 v2 := by
  obtain ⟨a, e⟩ := v
  unfold wpX_join wpY_join
  dsimp only
  refine ds_isSlot (fun c => br_t rfl ?_) (fun c1 c2 => br_f (by decide) ?_)
  · by_cases h0 : v1 < 0
    · exact br_t h0 ⟨rfl, I⟩
    · have h2 : (29 : Int32) < v1 := c.elim (fun z => absurd z h0) id
      exact br_f h0 (br_f (Int32.not_le.mpr h2) ⟨rfl, I⟩)
  · have h29 : v1 ≤ 29 := Int32.not_lt.mp c2
    obtain ⟨j, hj, rfl⟩ := nI_of2 (M := 29) (n := 29) (by decide) c1 h29
    have hl : j < 30 := by omega
    have hi : vp_in (nI j) 30 := vp_in_nI hl (by decide)
    have eb : a (nI j).toNatClampNeg = ds_B j := by rw [nI_clamp (by omega)]; exact (I j hl).1
    have ew : e (nI j).toNatClampNeg = ds_W j := by rw [nI_clamp (by omega)]; exact (I j hl).2
    rw [eb, ew]
    refine br_c (fun n => br_f c1 (br_t h29 (br_t n ⟨rfl, I⟩))) (fun n => ds_width hl (br_c (fun b => ds_base hl ?_) (fun b => ?_)))
    · exact br_f c1 (br_t h29 (br_f n ⟨hi, br_t b ⟨hi, rfl, I⟩⟩))
    · exact br_f c1 (br_t h29 (br_f n ⟨hi, br_f b ⟨rfl, I⟩⟩))
