/-! the amount: y modulo the width, by long division -/
def dg_am (w : Nat) : Nat → Nat → Nat
  | 0, r => r
  | d + 1, r => dg_am w d (if r < w * 2 ^ d then r else r - w * 2 ^ d)
theorem dg_wb : ∀ w, w ≤ 6 → ∀ d, d < 6 → w * 2 ^ d ≤ 192 := by decide
theorem dg_amL (post : Int32 → Prop) (w : Nat) (hw : w ≤ 6) (m t a b : Int32) : ∀ d r, d ≤ 6 → r < 64 → post (nI (dg_am w d r)) → wX_shiftAmount_9 post (nI w) m t a b (d + 1) (nI r) (nI d + (-1)) := by
  intro d
  induction d with
  | zero =>
    intro r _ _ h
    exact br_t (by decide) h
  | succ d ih =>
    intro r hd hr h
    have hb := dg_wb w hw d (by omega)
    rw [pk_m1]
    refine br_f (nI_pos (by omega)) ?_
    rw [dg_shl (by omega) (by omega)]
    refine dg_difW _ _ _ _ _ _ r (w * 2 ^ d) (by omega) ?_
    have e := pk_shrN (n := (r + (65536 - w * 2 ^ d)) % 65536) (by omega) ((15 : Int32) &&& 31) 15 (by decide)
    refine nm_r e ?_
    have h' : post (nI (dg_am w d (if r < w * 2 ^ d then r else r - w * 2 ^ d))) := h
    by_cases z : r < w * 2 ^ d
    · rw [if_pos z] at h'
      refine dg_cho _ _ r _ (by omega) (by omega) (by omega) ?_
      rw [if_pos (show (r + (65536 - w * 2 ^ d)) % 65536 / 2 ^ 15 = 1 by omega)]
      exact nm_e (ih r (by omega) hr h')
    · rw [if_neg z] at h'
      refine dg_cho _ _ r _ (by omega) (by omega) (by omega) ?_
      rw [if_neg (show ¬ (r + (65536 - w * 2 ^ d)) % 65536 / 2 ^ 15 = 1 by omega), show (r + (65536 - w * 2 ^ d)) % 65536 = r - w * 2 ^ d by omega]
      exact nm_e (ih _ (by omega) (by omega) h')
theorem dg_amE : ∀ w, w < 7 → ∀ y, y < 2 ^ w → 2 ≤ w → dg_am w w y = y % w := by decide +kernel
theorem dg_amW (post : Int32 → Prop) (w : Nat) (h2 : 2 ≤ w) (h6 : w ≤ 6) (m t a b : Int32) (y : Nat) (hy : y < 2 ^ w) (h : post (nI (y % w))) : wpX_shiftAmount post (nI w, m, t, a, b) (nI y) := by
  unfold wpX_shiftAmount
  have hp := dg_p6 w h6
  refine nm_r (show nI w - 1 = nI w + (-1) from Int32.sub_eq_add_neg _ _) ⟨w + 1, dg_amL post w h6 m t a b w y h6 (by omega) ?_⟩
  rw [dg_amE w (by omega) y hy h2]
  exact h
/-! the product, row by row -/
def dg_pr (x y : Nat) : Nat → Nat → Nat → Nat
  | 0, _, s => s
  | d + 1, i, s => dg_pr x y d (i + 1) ((s + x * 2 ^ i * (y / 2 ^ i % 2) + 0) % 65536)
theorem dg_xb {x i : Nat} (hx : x < 64) (hi : i < 6) : x * 2 ^ i < 4096 := by
  have h : 2 ^ i ≤ 2 ^ 5 := Nat.pow_le_pow_right (by decide) (by omega)
  have h2 := Nat.mul_le_mul (show x ≤ 63 by omega) h
  omega
theorem dg_prL (post : Int32 → Prop) (w : Nat) (hw : w ≤ 6) (m t a b : Int32) (x y : Nat) (hx : x < 64) (hy : y < 64) : ∀ d i s, i + d = w → post (nI (dg_pr x y d i s)) → wX_product_5 post (nI x) (nI y) (nI w) m t a b (d + 1) (nI s) (nI i) := by
  intro d
  induction d with
  | zero =>
    intro i s hi h
    obtain rfl : i = w := by omega
    exact br_t (nI_le (Nat.le_refl _) (by omega)) h
  | succ d ih =>
    intro i s hi h
    have h' : post (nI (dg_pr x y d (i + 1) ((s + x * 2 ^ i * (y / 2 ^ i % 2) + 0) % 65536))) := h
    have hb := dg_xb (i := i) hx (by omega)
    refine br_f (nI_ge (by omega) (by omega)) ?_
    rw [dg_bit (by omega) (by omega)]
    have z : y / 2 ^ i % 2 = 0 ∨ y / 2 ^ i % 2 = 1 := by omega
    rcases z with z | z
    · rw [z] at h' ⊢
      refine dg_sp0 _ (nm_r (e' := nI (x * 2 ^ i * 0)) (Int32.and_zero.trans (by rw [Nat.mul_zero, nI_0])) ?_)
      exact dg_sumW _ _ _ _ _ _ s _ 0 (by decide) (nm_r (nI_1 i) (ih (i + 1) _ (by omega) h'))
    · rw [z] at h' ⊢
      refine dg_sp1 _ (nm_r (e' := nI (x * 2 ^ i * 1)) (by rw [dg_shl (by omega) (by omega), Nat.mul_one]; exact nx_m16 (by omega)) ?_)
      exact dg_sumW _ _ _ _ _ _ s _ 0 (by decide) (nm_r (nI_1 i) (ih (i + 1) _ (by omega) h'))
theorem dg_prE : ∀ w, w < 7 → ∀ x, x < 2 ^ w → ∀ y, y < 2 ^ w → dg_pr x y w 0 0 = x * y := by decide +kernel
theorem dg_prW (post : Int32 → Prop) (w : Nat) (h6 : w ≤ 6) (m t a b : Int32) (x y : Nat) (hx : x < 2 ^ w) (hy : y < 2 ^ w) (h : post (nI (x * y))) : wpX_product post (nI w, m, t, a, b) (nI x) (nI y) := by
  unfold wpX_product
  have hp := dg_p6 w h6
  refine ⟨w + 1, dg_prL post w h6 m t a b x y (by omega) (by omega) w 0 0 (by omega) ?_⟩
  rw [dg_prE w (by omega) x hx y hy]
  exact h
/-! shifts in three stages -/
theorem dg_slS (post : Int32 → Prop) (am v i n : Nat) (hi : i < 3) (ha : am < 8) (hv : v < 4096) (h : wX_shiftedLeft_4 post (nI am) n (nI (if am / 2 ^ i % 2 = 1 then v * 2 ^ 2 ^ i else v)) (nI (i + 1))) : wX_shiftedLeft_4 post (nI am) (n + 1) (nI v) (nI i) := by
  have hp : 2 ^ 2 ^ i ≤ 16 := (by decide : ∀ i, i < 3 → 2 ^ 2 ^ i ≤ 16) i hi
  have hq : 2 ^ i ≤ 4 := (by decide : ∀ i, i < 3 → 2 ^ i ≤ 4) i hi
  have hm := Nat.mul_le_mul (show v ≤ 4095 by omega) hp
  refine br_f (nI_ge (b := 3) hi (by decide)) ?_
  rw [dg_bit (by omega) (by omega), dg_1s i (by omega), dg_shl (by omega) (by omega)]
  exact dg_cho _ _ _ _ (by omega) (by omega) (by omega) (nm_r (nI_1 i) h)
theorem dg_slW (post : Int32 → Prop) (x am : Nat) (hx : x < 64) (ha : am < 8) (h : post (nI (x * 2 ^ am))) : wpX_shiftedLeft post (nI x) (nI am) := by
  unfold wpX_shiftedLeft
  have hc : am = 0 ∨ am = 1 ∨ am = 2 ∨ am = 3 ∨ am = 4 ∨ am = 5 ∨ am = 6 ∨ am = 7 := by omega
  refine ⟨4, dg_slS post am x 0 3 (by decide) ha (by omega) (dg_slS post am _ 1 2 (by decide) ha (by split <;> omega) (dg_slS post am _ 2 1 (by decide) ha (by split <;> split <;> omega) (br_t (by decide) ?_)))⟩
  refine dg_at (P := post) (congrArg nI ?_) h
  rcases hc with rfl | rfl | rfl | rfl | rfl | rfl | rfl | rfl <;> simp <;> omega
theorem dg_srS (post : Int32 → Prop) (am v i n : Nat) (hi : i < 3) (ha : am < 8) (hv : v < 65536) (h : wX_shiftedRight_4 post (nI am) n (nI (if am / 2 ^ i % 2 = 1 then v / 2 ^ 2 ^ i else v)) (nI (i + 1))) : wX_shiftedRight_4 post (nI am) (n + 1) (nI v) (nI i) := by
  have hq : 2 ^ i ≤ 4 := (by decide : ∀ i, i < 3 → 2 ^ i ≤ 4) i hi
  have hm : v / 2 ^ 2 ^ i ≤ v := Nat.div_le_self _ _
  refine br_f (nI_ge (b := 3) hi (by decide)) ?_
  rw [dg_bit (by omega) (by omega), dg_1s i (by omega), dg_shr (by omega) (by omega)]
  exact dg_cho _ _ _ _ (by omega) (by omega) (by omega) (nm_r (nI_1 i) h)
theorem dg_srW (post : Int32 → Prop) (x am : Nat) (hx : x < 65536) (ha : am < 8) (h : post (nI (x / 2 ^ am))) : wpX_shiftedRight post (nI x) (nI am) := by
  unfold wpX_shiftedRight
  have hc : am = 0 ∨ am = 1 ∨ am = 2 ∨ am = 3 ∨ am = 4 ∨ am = 5 ∨ am = 6 ∨ am = 7 := by omega
  refine ⟨4, dg_srS post am x 0 3 (by decide) ha hx (dg_srS post am _ 1 2 (by decide) ha (by split <;> omega) (dg_srS post am _ 2 1 (by decide) ha (by split <;> split <;> omega) (br_t (by decide) ?_)))⟩
  refine dg_at (P := post) (congrArg nI ?_) h
  rcases hc with rfl | rfl | rfl | rfl | rfl | rfl | rfl | rfl <;> simp <;> omega
