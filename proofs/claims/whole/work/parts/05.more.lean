/-! the sign's copies -/
def dg_hi (w x : Nat) : Nat := if x / 2 ^ (w - 1) = 1 then 65536 - 2 ^ w else 0
theorem dg_top {w x : Nat} (h2 : 2 ≤ w) (hx : x < 2 ^ w) : x / 2 ^ (w - 1) = 0 ∨ x / 2 ^ (w - 1) = 1 := by
  have hp := dg_pp w (by omega)
  have h : x / 2 ^ (w - 1) < 2 := Nat.div_lt_of_lt_mul (by omega)
  generalize x / 2 ^ (w - 1) = q at h
  omega
theorem dg_hiE : ∀ w, w < 7 → (65535 : Int32) &&& (nI (2 ^ w - 1) ^^^ (-1)) = nI (65536 - 2 ^ w) := by decide +kernel
theorem dg_sgW (post : Int32 → Prop) (w : Nat) (h2 : 2 ≤ w) (h6 : w ≤ 6) (t a b : Int32) (x am : Nat) (hx : x < 2 ^ w) (ha : am < 8) (h : post (nI ((x ||| dg_hi w x) / 2 ^ am % 2 ^ w))) : wpX_shiftedRightWithSign post (nI w, nI (2 ^ w - 1), t, a, b) (nI x) (nI am) := by
  unfold wpX_shiftedRightWithSign
  have hp := dg_p6 w h6
  have hp2 := dg_p2 w h2
  dsimp only
  rw [dg_pred (by omega), dg_shr (by omega) (by omega)]
  have hor : ∀ q, q < 65536 → x ||| q < 65536 := fun q hq => Nat.or_lt_two_pow (n := 16) (by omega) hq
  rcases dg_top h2 hx with z | z
  · have e : dg_hi w x = 0 := if_neg (by omega)
    rw [e] at h
    rw [z]
    refine dg_sp0 _ (nm_r (e' := nI 0) Int32.zero_and ?_)
    rw [dg_or]
    exact dg_srW _ _ am (hor 0 (by decide)) ha (dg_at (P := post) (dg_msk _ w) h)
  · have e : dg_hi w x = 65536 - 2 ^ w := if_pos z
    rw [e] at h
    rw [z]
    refine dg_sp1 _ (nm_r (dg_hiE w (by omega)) ?_)
    rw [dg_or]
    exact dg_srW _ _ am (hor _ (by omega)) ha (dg_at (P := post) (dg_msk _ w) h)
theorem dg_tlW (post : Int32 → Prop) (w : Nat) (h6 : w ≤ 6) (t a b : Int32) (x am : Nat) (hx : x < 2 ^ w) (ha : am < 8) (h : post (nI ((x * 2 ^ am ||| x * 2 ^ am / 2 ^ w) % 2 ^ w))) : wpX_turnedLeft post (nI w, nI (2 ^ w - 1), t, a, b) (nI x) (nI am) := by
  unfold wpX_turnedLeft
  have hp := dg_p6 w h6
  have hb : 2 ^ am ≤ 2 ^ 7 := Nat.pow_le_pow_right (by decide) (by omega)
  have hm := Nat.mul_le_mul (show x ≤ 63 by omega) hb
  refine dg_slW _ x am (by omega) ha (dg_at (P := post) ?_ h)
  rw [dg_shr (by omega) (by omega), dg_or, dg_msk]
/-! counts -/
def dg_on (x : Nat) : Nat → Nat → Nat → Nat
  | 0, _, s => s
  | d + 1, i, s => dg_on x d (i + 1) ((s + x / 2 ^ i % 2 + 0) % 65536)
theorem dg_onL (post : Int32 → Prop) (w : Nat) (hw : w ≤ 6) (t a b : Int32) (x : Nat) (hx : x < 64) : ∀ d i s, i + d = w → post (nI (dg_on x d i s % 2 ^ w)) → wX_onesIn_4 post (nI x) (nI w) (nI (2 ^ w - 1)) t a b (d + 1) (nI s) (nI i) := by
  intro d
  induction d with
  | zero =>
    intro i s hi h
    obtain rfl : i = w := by omega
    exact br_t (nI_le (Nat.le_refl _) (by omega)) (dg_at (P := post) (dg_msk _ i) h)
  | succ d ih =>
    intro i s hi h
    have h' : post (nI (dg_on x d (i + 1) ((s + x / 2 ^ i % 2 + 0) % 65536) % 2 ^ w)) := h
    refine br_f (nI_ge (by omega) (by omega)) ?_
    rw [dg_bit (by omega) (by omega)]
    exact dg_sumW _ _ _ _ _ _ s _ 0 (by decide) (nm_r (nI_1 i) (ih (i + 1) _ (by omega) h'))
theorem dg_onW (post : Int32 → Prop) (w : Nat) (h6 : w ≤ 6) (t a b : Int32) (x : Nat) (hx : x < 2 ^ w) (h : post (nI (dg_on x w 0 0 % 2 ^ w))) : wpX_onesIn post (nI w, nI (2 ^ w - 1), t, a, b) (nI x) := by
  unfold wpX_onesIn
  have hp := dg_p6 w h6
  exact ⟨w + 1, dg_onL post w h6 t a b x (by omega) w 0 0 (by omega) h⟩
def dg_ze (x : Nat) : Nat → Nat → Nat → Nat
  | 0, s, _ => s
  | d + 1, s, k => dg_ze x d ((s + k * (1 - x / 2 ^ d % 2) + 0) % 65536) (k * (1 - x / 2 ^ d % 2))
theorem dg_nyE {k q : Nat} (hk : k ≤ 1) (hq : q < 64) : nI k &&& (nI q ^^^ (-1)) = nI (k * (1 - q % 2)) := by
  rw [dg_neg (by omega)]
  have h : k = 0 ∨ k = 1 := by omega
  rcases h with rfl | rfl
  · rw [nx_and, Nat.zero_and, Nat.zero_mul]
  · rw [Int32.and_comm]
    refine (dg_a1 _).trans (congrArg nI ?_)
    omega
theorem dg_zeL (post : Int32 → Prop) (w : Nat) (hw : w ≤ 6) (t a b : Int32) (x : Nat) (hx : x < 64) : ∀ d s k, d ≤ 6 → k ≤ 1 → post (nI (dg_ze x d s k % 2 ^ w)) → wX_zerosAbove_12 post (nI x) (nI w) (nI (2 ^ w - 1)) t a b (d + 1) (nI s) (nI k) (nI d + (-1)) := by
  intro d
  induction d with
  | zero =>
    intro s k _ _ h
    exact br_t (by decide) (dg_at (P := post) (dg_msk _ w) h)
  | succ d ih =>
    intro s k hd hk h
    have h' : post (nI (dg_ze x d ((s + k * (1 - x / 2 ^ d % 2) + 0) % 65536) (k * (1 - x / 2 ^ d % 2)) % 2 ^ w)) := h
    have hq : x / 2 ^ d ≤ x := Nat.div_le_self _ _
    have hk' : k * (1 - x / 2 ^ d % 2) ≤ 1 := Nat.le_trans (Nat.mul_le_mul hk (Nat.sub_le 1 _)) (by decide)
    rw [pk_m1]
    refine br_f (nI_pos (by omega)) ?_
    rw [dg_shr (by omega) (by omega)]
    refine nm_r (dg_nyE hk (by omega)) ?_
    exact dg_sumW _ _ _ _ _ _ s _ 0 (by decide) (nm_e (ih _ _ (by omega) hk' h'))
theorem dg_zeW (post : Int32 → Prop) (w : Nat) (h6 : w ≤ 6) (t a b : Int32) (x : Nat) (hx : x < 2 ^ w) (h : post (nI (dg_ze x w 0 1 % 2 ^ w))) : wpX_zerosAbove post (nI w, nI (2 ^ w - 1), t, a, b) (nI x) := by
  unfold wpX_zerosAbove
  have hp := dg_p6 w h6
  exact nm_r (show nI w - 1 = nI w + (-1) from Int32.sub_eq_add_neg _ _) ⟨w + 1, dg_zeL post w h6 t a b x (by omega) w 0 1 h6 (by decide) h⟩
/-! without its sign -/
def dg_ab (w x : Nat) : Nat := if x / 2 ^ (w - 1) = 1 then (0 + (65536 - x)) % 65536 % 2 ^ w else x
theorem dg_abW (post : Int32 → Prop) (w : Nat) (h2 : 2 ≤ w) (h6 : w ≤ 6) (t a b : Int32) (x : Nat) (hx : x < 2 ^ w) (h : post (nI (dg_ab w x))) : wpX_withoutSign post (nI w, nI (2 ^ w - 1), t, a, b) (nI x) := by
  unfold wpX_withoutSign
  have hp := dg_p6 w h6
  have hl := Nat.mod_lt ((0 + (65536 - x)) % 65536) (Nat.two_pow_pos w)
  have ht := dg_top h2 hx
  refine dg_difW _ _ _ _ _ _ 0 x (by omega) (nm_r (dg_msk _ w) ?_)
  rw [dg_pred (by omega), dg_shr (by omega) (by omega)]
  exact dg_cho _ _ _ _ (by omega) (by omega) (by omega) h
