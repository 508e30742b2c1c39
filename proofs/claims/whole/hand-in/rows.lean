section
/-- n - 1 as the walks print it (from kit/rows) -/
theorem pk_m1 (n : Nat) : nI (n + 1) + (-1) = nI n := by
  rw [← nI_1, Int32.add_assoc, show (1 : Int32) + (-1) = 0 from rfl, Int32.add_zero]
/-- the width of slot j, and the first distance of slot j (ds_B 30 is one past the last distance) -/
def ds_W (j : Nat) : Int32 := if j < 2 then 0 else nI (j / 2 - 1)
def ds_B (j : Nat) : Int32 := if j < 2 then nI (1 + j) else nI (1 + (2 + j % 2) * 2 ^ (j / 2 - 1))
/-- the reference's two tables hold them -/
def ds_Tab (n : Nat) (a e : Nat → Int32) : Prop := ∀ j, j < n → a j = ds_B j ∧ e j = ds_W j
theorem ds_fw : ∀ j, j < 30 → (2 : Int32) ≤ nI j → (nI j >>> ((1 : Int32) &&& 31)) - 1 = ds_W j := by decide +kernel
theorem ds_fw0 : ∀ j, j < 30 → ¬ (2 : Int32) ≤ nI j → (0 : Int32) = ds_W j := by decide +kernel
theorem ds_fb : ∀ j, j < 30 → (2 : Int32) ≤ nI j → 1 + ((2 + (nI j &&& 1)) <<< (ds_W j &&& 31)) = ds_B j := by decide +kernel
theorem ds_fb0 : ∀ j, j < 30 → ¬ (2 : Int32) ≤ nI j → 1 + nI j = ds_B j := by decide +kernel
theorem ds_fd : ∀ j, j < 30 → ds_B j + ((1 : Int32) <<< (ds_W j &&& 31)) = ds_B (j + 1) := by decide +kernel
theorem ds_fc' : ∀ j, j < 30 → ((((ds_B j).toUInt32 % 65536).toInt32).toUInt32.toUInt16.toUInt32.toInt32) = ds_B j := by decide +kernel
theorem ds_fe' : ∀ j, j < 30 → ((ds_W j).toInt8.toInt32).toInt8.toInt32 = ds_W j := by decide +kernel
theorem ds_fc (j : Nat) (hj : j < 30) : vp_nar .char (((ds_B j).toUInt32 % 65536).toInt32) = ds_B j := by
  rw [vp_nar_char]; exact ds_fc' j hj
theorem ds_fe (j : Nat) (hj : j < 30) : vp_nar .byte (ds_W j).toInt8.toInt32 = ds_W j := by
  rw [vp_nar_byte]; exact ds_fe' j hj
theorem ds_B0 : ds_B 0 = 1 := by decide +kernel
/-- the class's private methods -/
theorem ds_width {post : Int32 → Prop} {j : Nat} (hj : j < 30) (h : post (ds_W j)) : wpX_widthOf post (nI j) := by
  unfold wpX_widthOf
  refine br_c (fun c => ?_) (fun c => ?_)
  · rw [ds_fw j hj c]; exact h
  · rw [ds_fw0 j hj c]; exact h
theorem ds_base {post : Int32 → Prop} {j : Nat} (hj : j < 30) (h : post (ds_B j)) : wpX_baseOf post (nI j) := by
  unfold wpX_baseOf
  refine br_c (fun c => ds_width hj ?_) (fun c => ?_)
  · rw [ds_fb j hj c]; exact h
  · rw [ds_fb0 j hj c]; exact h
theorem ds_dist {post : Int32 → Prop} {d : Int32} (hF : (d < 1 ∨ 32768 < d) → post 0) (hT : ¬ d < 1 → ¬ 32768 < d → post 1) : wpX_isDistance post d :=
  br_c (fun c => hF (Or.inl c)) (fun c => br_c (fun c2 => hF (Or.inr c2)) (fun c2 => hT c c2))
theorem ds_isSlot {post : Int32 → Prop} {s : Int32} (hF : (s < 0 ∨ 29 < s) → post 0) (hT : ¬ s < 0 → ¬ 29 < s → post 1) : wpX_isSlot post s :=
  br_c (fun c => hF (Or.inl c)) (fun c => br_c (fun c2 => hF (Or.inr c2)) (fun c2 => hT c c2))
/-- both scans for a slot, from s downward: one answer -/
theorem ds_scan {a e : Nat → Int32} (hB : ds_Tab 30 a e) (d : Int32) (hd : ¬ d < 1) : ∀ s, s < 30 → ∃ r, r < 30 ∧ (∀ post : Int32 → Prop, post (nI r) → wX_slot_12 post d (s + 1) (nI s)) ∧ (∀ post : Int32 → Prop, post (nI r) → wY_slot_16 post d a e (s + 1) (nI s)) := by
  intro s
  induction s with
  | zero =>
    intro h30
    have ea : a (nI 0).toNatClampNeg = 1 := by
      rw [nI_clamp (by decide), (hB 0 h30).1]; exact ds_B0
    refine ⟨0, h30, fun post hp => br_t (by decide) hp, fun post hp => ⟨vp_in_nI h30 (by decide), br_t ?_ hp⟩⟩
    rw [ea]; exact Int32.not_lt.mp hd
  | succ s ih =>
    intro hs
    obtain ⟨r, hr, hX, hY⟩ := ih (by omega)
    have ea : a (nI (s + 1)).toNatClampNeg = ds_B (s + 1) := by
      rw [nI_clamp (by omega)]; exact (hB _ hs).1
    have h0 : ¬ nI (s + 1) ≤ 0 := nI_nle (by omega) (by omega)
    have hi : vp_in (nI (s + 1)) 30 := vp_in_nI hs (by decide)
    by_cases c : d < ds_B (s + 1)
    · have c' : ¬ a (nI (s + 1)).toNatClampNeg ≤ d := by rw [ea]; exact Int32.not_le.mpr c
      refine ⟨r, hr, fun post hp => br_f h0 (ds_base hs (br_t c fun x ex => ?_)), fun post hp => ⟨hi, br_f c' fun x ex => ?_⟩⟩
      · rw [ex, pk_m1]; exact hX post hp
      · rw [ex, pk_m1]; exact hY post hp
    · have c' : a (nI (s + 1)).toNatClampNeg ≤ d := by rw [ea]; exact Int32.not_lt.mp c
      exact ⟨s + 1, hs, fun post hp => br_f h0 (ds_base hs (br_f c hp)), fun post hp => ⟨hi, br_t c' hp⟩⟩
/-- slot on both sides: one answer, -1 or a slot -/
theorem ds_slots {a e : Nat → Int32} (hB : ds_Tab 30 a e) (d : Int32) : ∃ r : Int32, (∀ (post : Int32 → Prop) (u : SX), post r → wpX_slot post u d) ∧ (∀ post : Int32 → Prop, post r → wpY_slot post (a, e) d) ∧ ((d < 1 ∨ 32768 < d) → r = -1) ∧ (¬ d < 1 → ¬ 32768 < d → ∃ j, j < 30 ∧ r = nI j) := by
  by_cases h1 : d < 1
  · refine ⟨-1, fun post u hp => ?_, fun post hp => ?_, fun _ => rfl, fun c => absurd h1 c⟩
    · unfold wpX_slot
      exact ds_dist (fun _ => br_t rfl hp) (fun c => absurd h1 c)
    · unfold wpY_slot
      exact br_t h1 hp
  · by_cases h2 : 32768 < d
    · refine ⟨-1, fun post u hp => ?_, fun post hp => ?_, fun _ => rfl, fun _ c => absurd h2 c⟩
      · unfold wpX_slot
        exact ds_dist (fun _ => br_t rfl hp) (fun _ c => absurd h2 c)
      · unfold wpY_slot
        exact br_f h1 (br_f (Int32.not_le.mpr h2) hp)
    · obtain ⟨r, hr, hX, hY⟩ := ds_scan hB d h1 29 (by decide)
      refine ⟨nI r, fun post u hp => ?_, fun post hp => ?_, fun c => ?_, fun _ _ => ⟨r, hr, rfl⟩⟩
      · unfold wpX_slot
        exact ds_dist (fun c => c.elim (fun z => absurd z h1) (fun z => absurd z h2)) (fun _ _ => br_f (by decide) ⟨30, hX post hp⟩)
      · unfold wpY_slot
        exact br_f h1 (br_t (Int32.not_lt.mp h2) ⟨30, hY post hp⟩)
      · exact c.elim (fun z => absurd z h1) (fun z => absurd z h2)
/-- the reference's constructor -/
theorem ds_step {post : SY → Prop} {J : Int32 → Int32 → (Nat → Int32) → (Nat → Int32) → Prop} {s : Nat} {a e : Nat → Int32} (hs : s < 30) (h : J (ds_B (s + 1)) (nI (s + 1)) (upd a s (ds_B s)) (upd e s (ds_W s))) : wY_init_44 post J (ds_B s) (nI s) (ds_W s) a e := by
  have hi : vp_in (nI s) 30 := vp_in_nI hs (by decide)
  have hc : (nI s).toNatClampNeg = s := nI_clamp (by omega)
  unfold wY_init_44
  refine ⟨hi, nm_r (by rw [hc, ds_fc s hs]) ⟨hi, nm_r (by rw [hc, ds_fe s hs]) (nm_r (ds_fd s hs) (nm_r (nI_1 s) h))⟩⟩
theorem ds_grow {s : Nat} {a e : Nat → Int32} (h : ds_Tab s a e) : ds_Tab (s + 1) (upd a s (ds_B s)) (upd e s (ds_W s)) := by
  intro j hj
  by_cases z : j = s
  · subst z; exact ⟨if_pos rfl, if_pos rfl⟩
  · have hl := h j (by omega)
    exact ⟨(if_neg z).trans hl.1, (if_neg z).trans hl.2⟩
theorem ds_init {post : SY → Prop} (hp : ∀ a e, ds_Tab 30 a e → post (a, e)) : ∀ m s (a e : Nat → Int32), s + m = 30 → ds_Tab s a e → wY_init_24 post (m + 1) (ds_B s) (nI s) a e := by
  intro m
  induction m with
  | zero =>
    intro s a e hs h
    cases hs
    exact br_t (by decide +kernel) (hp a e h)
  | succ m ih =>
    intro s a e hs h
    have hl : s < 30 := by omega
    have h30 : ¬ (30 : Int32) ≤ nI s := nI_ge (b := 30) hl (by decide)
    have nx := ih (s + 1) _ _ (by omega) (ds_grow h)
    refine br_f h30 (br_c (fun c => ?_) (fun c => ?_))
    · rw [ds_fw s hl c]; exact ds_step hl nx
    · rw [ds_fw0 s hl c]; exact ds_step hl nx
end
section
/-- the class holds no state; the reference's two tables are what its constructor made -/
def i_Rel (k : Nat) (u : SX) (v : SY) : Prop := ds_Tab 30 v.1 v.2
theorem i_up {k : Nat} {u : SX} {v : SY} (h : i_Rel k u v) : i_Rel (k + 3) u v := h
theorem i_vc0 : wpX_init (fun u => wpY_init (fun v => i_Rel 0 u v)) := by
  unfold wpX_init wpY_init
  refine ⟨31, ?_⟩
  have h := ds_init (post := fun v => i_Rel 0 () v) (fun a e h => h) 30 0 (fun _ => 0) (fun _ => 0) rfl (fun j hj => absurd hj (Nat.not_lt_zero j))
  rw [ds_B0, nI_0] at h
  exact h
theorem i_vc_slot {k : Nat} {u : SX} {v : SY} (I : i_Rel k u v) (hk : k + 3 ≤ 1536) (v1 : Int32) : wpX_slot (fun r => wpY_slot (fun r' => r' = r ∧ i_Rel (k + 3) u v) v v1) u v1 := by
  obtain ⟨a, e⟩ := v
  obtain ⟨r, hX, hY, _, _⟩ := ds_slots (a := a) (e := e) I v1
  exact hX _ u (hY _ ⟨rfl, I⟩)
theorem i_vc_extra {k : Nat} {u : SX} {v : SY} (I : i_Rel k u v) (hk : k + 3 ≤ 1536) (v1 : Int32) : wpX_extra (fun r => wpY_extra (fun r' => r' = r ∧ i_Rel (k + 3) u v) v v1) u v1 := by
  obtain ⟨a, e⟩ := v
  obtain ⟨r, hX, hY, hF, hT⟩ := ds_slots (a := a) (e := e) I v1
  unfold wpX_extra wpY_extra
  dsimp only
  refine ds_dist (fun c => br_t rfl ?_) (fun c1 c2 => br_f (by decide) ?_)
  · cases hF c
    exact hY _ (br_f (by decide) ⟨rfl, I⟩)
  · obtain ⟨j, hj, rfl⟩ := hT c1 c2
    have hi : vp_in (nI j) 30 := vp_in_nI hj (by decide)
    refine hX _ _ (ds_base hj (nm_e (ds_width hj (hY _ (br_t (nI_pos' (by omega)) ⟨hi, hi, ?_, I⟩)))))
    have ea : a j = ds_B j := (I j hj).1
    have ew : e j = ds_W j := (I j hj).2
    rw [nI_clamp (by omega), ea, ew]
theorem i_vc_join {k : Nat} {u : SX} {v : SY} (I : i_Rel k u v) (hk : k + 3 ≤ 1536) (v1 : Int32) (v2 : Int32) : wpX_join (fun r => wpY_join (fun r' => r' = r ∧ i_Rel (k + 3) u v) v v1 v2) u v1 v2 := by
  obtain ⟨a, e⟩ := v
  unfold wpX_join wpY_join
  dsimp only
  refine ds_isSlot (fun c => br_t rfl ?_) (fun c1 c2 => br_f (by decide) ?_)
  · by_cases h0 : v1 < 0
    · exact br_t h0 ⟨rfl, I⟩
    · have h2 : (29 : Int32) < v1 := c.elim (fun z => absurd z h0) id
      exact br_f h0 (br_f (Int32.not_le.mpr h2) ⟨rfl, I⟩)
  · have h29 : v1 ≤ 29 := Int32.not_lt.mp c2
    obtain ⟨j, hj, rfl⟩ := nI_of2 (M := 29) (n := 29) (by decide) c1 h29
    have hl : j < 30 := by omega
    have hi : vp_in (nI j) 30 := vp_in_nI hl (by decide)
    have eb : a (nI j).toNatClampNeg = ds_B j := by rw [nI_clamp (by omega)]; exact (I j hl).1
    have ew : e (nI j).toNatClampNeg = ds_W j := by rw [nI_clamp (by omega)]; exact (I j hl).2
    rw [eb, ew]
    refine br_c (fun n => br_f c1 (br_t h29 (br_t n ⟨rfl, I⟩))) (fun n => ds_width hl (br_c (fun b => ds_base hl ?_) (fun b => ?_)))
    · exact br_f c1 (br_t h29 (br_f n ⟨hi, br_t b ⟨hi, rfl, I⟩⟩))
    · exact br_f c1 (br_t h29 (br_f n ⟨hi, br_f b ⟨rfl, I⟩⟩))
end
