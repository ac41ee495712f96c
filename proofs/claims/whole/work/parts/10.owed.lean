/-- one width, one pair of numbers on both sides -/
def i_Rel (_ : Nat) (u : SX) (v : SY) : Prop := ∃ (w x y : Nat) (t : Int32), (2 ≤ w ∧ w ≤ 6 ∧ x < 2 ^ w ∧ y < 2 ^ w) ∧ u = (nI w, nI (2 ^ w - 1), t, nI x, nI y) ∧ v = (nI w, nI x, nI y)
theorem dg_Rel {k w x y : Nat} (t : Int32) (h2 : 2 ≤ w) (h6 : w ≤ 6) (hx : x < 2 ^ w) (hy : y < 2 ^ w) : i_Rel k (nI w, nI (2 ^ w - 1), t, nI x, nI y) (nI w, nI x, nI y) := ⟨w, x, y, t, ⟨h2, h6, hx, hy⟩, rfl, rfl⟩
theorem i_up {k : Nat} {u : SX} {v : SY} (h : i_Rel k u v) : i_Rel (k + 3) u v := h
theorem i_vc0 (k0 : Int32) (k1 : Int32) : wpX_init (fun u => wpY_init (fun v => i_Rel 2 u v) k0 k1) k0 k1 := by
  by_cases a : 2 ≤ k0
  · by_cases b : k0 ≤ 6
    · have hn : ¬ k0 < 0 := fun z => absurd (Int32.lt_of_lt_of_le (show (0 : Int32) < 2 by decide) a) (Int32.not_lt.mpr (Int32.le_of_lt z))
      obtain ⟨w, hw, rfl⟩ := nI_of2 (M := 6) (n := 6) (by decide) hn b
      have h2 : 2 ≤ w := (nI_leI (a := 2) (b := w) (by decide) (by omega)).mp a
      exact br_t a (br_t b (dg_i26 _ k1 w hw (fun t => br_t a (br_t b (dg_Rel (x := 0) (y := 0) t h2 hw (Nat.two_pow_pos w) (Nat.two_pow_pos w))))))
    · exact br_t a (br_f b (dg_i26 _ k1 6 (by decide) (fun t => br_t a (br_f b (dg_Rel (w := 6) (x := 0) (y := 0) t (by decide) (by decide) (by decide) (by decide))))))
  · exact br_f a (dg_i26 _ k1 2 (by decide) (fun t => br_f a (dg_Rel (w := 2) (x := 0) (y := 0) t (by decide) (by decide) (by decide) (by decide))))
theorem i_vc_operands {k : Nat} {u : SX} {v : SY} (I : i_Rel k u v) (hk : k + 3 ≤ 1538) (v1 : Int32) (v2 : Int32) : wpX_operands (fun r u' => wpY_operands (fun r' v' => r' = r ∧ i_Rel (k + 3) u' v') v v1 v2) u v1 v2 := by
  obtain ⟨w, x, y, t, ⟨h2, h6, hx, hy⟩, rfl, rfl⟩ := I
  have hp := dg_p6 w h6
  rcases dg_or3 (pk_ix v1 (n := 2 ^ w) (by omega)) with q | ⟨i, hi, rfl⟩
  · exact dg_opXF _ w h6 t _ _ v1 v2 (Or.inl q) (dg_opYF _ w h6 _ _ v1 v2 (Or.inl q) ⟨rfl, dg_Rel t h2 h6 hx hy⟩)
  · rcases dg_or3 (pk_ix v2 (n := 2 ^ w) (by omega)) with q | ⟨j, hj, rfl⟩
    · exact dg_opXF _ w h6 t _ _ _ v2 (Or.inr ⟨⟨i, hi, rfl⟩, q⟩) (dg_opYF _ w h6 _ _ _ v2 (Or.inr ⟨⟨i, hi, rfl⟩, q⟩) ⟨rfl, dg_Rel t h2 h6 hx hy⟩)
    · exact dg_opXT _ w h6 t _ _ i j hi hj (dg_opYT _ w h6 _ _ i j hi hj ⟨rfl, dg_Rel t h2 h6 hi hj⟩)
theorem i_vc_result {k : Nat} {u : SX} {v : SY} (I : i_Rel k u v) (hk : k + 3 ≤ 1538) (v1 : Int32) : wpX_result (fun r => wpY_result (fun r' => r' = r ∧ i_Rel (k + 3) u v) v v1) u v1 := by
  obtain ⟨w, x, y, t, ⟨h2, h6, hx, hy⟩, rfl, rfl⟩ := I
  unfold wpX_result
  rcases dg_or3 (pk_ix v1 (n := 16) (by decide)) with q | ⟨op, ho, rfl⟩
  · exact dg_ioF _ v1 q (br_t rfl (dg_reF _ _ _ _ v1 q ⟨rfl, dg_Rel t h2 h6 hx hy⟩))
  · exact dg_ioT _ op ho (br_f (by decide) (dg_X _ w h2 h6 t _ _ op x y ho hx hy (dg_reT _ w h2 h6 op x y ho hx hy ⟨rfl, dg_Rel t h2 h6 hx hy⟩)))
theorem i_vc_bit {k : Nat} {u : SX} {v : SY} (I : i_Rel k u v) (hk : k + 3 ≤ 1538) (v1 : Int32) (v2 : Int32) : wpX_bit (fun r => wpY_bit (fun r' => r' = r ∧ i_Rel (k + 3) u v) v v1 v2) u v1 v2 := by
  obtain ⟨w, x, y, t, ⟨h2, h6, hx, hy⟩, rfl, rfl⟩ := I
  have hp := dg_p6 w h6
  have J : i_Rel (k + 3) (nI w, nI (2 ^ w - 1), t, nI x, nI y) (nI w, nI x, nI y) := dg_Rel t h2 h6 hx hy
  unfold wpX_bit wpY_bit
  rcases dg_or3 (pk_ix v1 (n := 16) (by decide)) with q | ⟨op, ho, rfl⟩
  · exact dg_ioF _ v1 q (br_t rfl (dg_iyF _ _ _ _ v1 q (br_t rfl ⟨rfl, J⟩)))
  · refine dg_ioT _ op ho (br_f (by decide) ?_)
    by_cases z : v2 < 0
    · exact br_t z (dg_iyT _ _ _ _ op ho (br_f (by decide) (br_t z ⟨rfl, J⟩)))
    · obtain ⟨i, hi, rfl⟩ := nI_of z
      by_cases q : i < w
      · have hq : nI i < nI w := nI_lt q (by omega)
        have hv := dg_valB op h2 hx hy
        refine br_f z (br_t hq (dg_X _ w h2 h6 t _ _ op x y ho hx hy (dg_iyT _ _ _ _ op ho (br_f (by decide) (br_f z (br_t hq (dg_reT _ w h2 h6 op x y ho hx hy ⟨dg_bt0 (by omega), by decide, ?_, J⟩)))))))
        rw [dg_btY (by omega) (by omega), dg_bit (by omega) (by omega)]
      · have hq : ¬ nI i < nI w := nI_nlt (by omega) hi
        exact br_f z (br_f hq (dg_iyT _ _ _ _ op ho (br_f (by decide) (br_f z (br_f hq ⟨rfl, J⟩)))))
theorem i_vc_feed {k : Nat} {u : SX} {v : SY} (I : i_Rel k u v) (hk : k + 3 ≤ 1538) (v1 : Int32) : wpX_feed (fun r u' => wpY_feed (fun r' v' => r' = r ∧ i_Rel (k + 3) u' v') v v1) u v1 := by
  obtain ⟨w, x, y, t, ⟨h2, h6, hx, hy⟩, rfl, rfl⟩ := I
  unfold wpX_feed wpY_feed
  rcases dg_or3 (pk_ix v1 (n := 16) (by decide)) with q | ⟨op, ho, rfl⟩
  · exact dg_ioF _ v1 q (br_t rfl (dg_iyF _ _ _ _ v1 q (br_t rfl ⟨rfl, dg_Rel t h2 h6 hx hy⟩)))
  · exact dg_ioT _ op ho (br_f (by decide) (dg_X _ w h2 h6 t _ _ op x y ho hx hy (dg_iyT _ _ _ _ op ho (br_f (by decide) (dg_Y _ w h2 h6 _ _ op x y ho hx hy ⟨rfl, dg_Rel t h2 h6 (dg_valB op h2 hx hy) hy⟩)))))
theorem i_vc_swap {k : Nat} {u : SX} {v : SY} (I : i_Rel k u v) (hk : k + 3 ≤ 1538) : wpX_swap (fun u' => wpY_swap (fun v' => i_Rel (k + 3) u' v') v) u := by
  obtain ⟨w, x, y, t, ⟨h2, h6, hx, hy⟩, rfl, rfl⟩ := I
  exact dg_Rel (k := k + 3) t h2 h6 hy hx
theorem i_vc_first {k : Nat} {u : SX} {v : SY} (I : i_Rel k u v) (hk : k + 3 ≤ 1538) : wpX_first (fun r => wpY_first (fun r' => r' = r ∧ i_Rel (k + 3) u v) v) u := by
  obtain ⟨w, x, y, t, ⟨h2, h6, hx, hy⟩, rfl, rfl⟩ := I
  exact ⟨rfl, dg_Rel t h2 h6 hx hy⟩
theorem i_vc_second {k : Nat} {u : SX} {v : SY} (I : i_Rel k u v) (hk : k + 3 ≤ 1538) : wpX_second (fun r => wpY_second (fun r' => r' = r ∧ i_Rel (k + 3) u v) v) u := by
  obtain ⟨w, x, y, t, ⟨h2, h6, hx, hy⟩, rfl, rfl⟩ := I
  exact ⟨rfl, dg_Rel t h2 h6 hx hy⟩
theorem i_vc_alike {k : Nat} {u : SX} {v : SY} (I : i_Rel k u v) (hk : k + 3 ≤ 1538) (v1 : Int32) : wpX_alike (fun r => wpY_alike (fun r' => r' = r ∧ i_Rel (k + 3) u v) v v1) u v1 := by
  obtain ⟨w, x, y, t, ⟨h2, h6, hx, hy⟩, rfl, rfl⟩ := I
  unfold wpX_alike wpY_alike
  rcases dg_or3 (pk_ix v1 (n := 16) (by decide)) with q | ⟨op, ho, rfl⟩
  · exact dg_ioF _ v1 q (br_t rfl (dg_iyF _ _ _ _ v1 q (br_t rfl ⟨rfl, dg_Rel t h2 h6 hx hy⟩)))
  · exact dg_ioT _ op ho (br_f (by decide) (dg_X _ w h2 h6 t _ _ op x y ho hx hy ⟨2 ^ w + 1, dg_alX _ w h2 h6 t _ op y _ ho hy (dg_valB op h2 hx hy) (2 ^ w) 0 0 (Nat.zero_add _) (dg_iyT _ _ _ _ op ho (br_f (by decide) ⟨2 ^ w + 1, dg_alY _ w h2 h6 op x y ho hx hy (2 ^ w) 0 0 (Nat.zero_add _) ⟨rfl, dg_Rel t h2 h6 hx hy⟩⟩))⟩))
theorem i_vc_width {k : Nat} {u : SX} {v : SY} (I : i_Rel k u v) (hk : k + 3 ≤ 1538) : wpX_width (fun r => wpY_width (fun r' => r' = r ∧ i_Rel (k + 3) u v) v) u := by
  obtain ⟨w, x, y, t, ⟨h2, h6, hx, hy⟩, rfl, rfl⟩ := I
  exact ⟨rfl, dg_Rel t h2 h6 hx hy⟩
