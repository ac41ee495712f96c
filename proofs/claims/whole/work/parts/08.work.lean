/-! the shifts' loop, by operation -/
theorem dg_shL6 (post : Int32 → Prop) (w : Nat) (h2 : 2 ≤ w) (h6 : w ≤ 6) (f s : Int32) (n : Nat) (hn : n < 2 ^ 31) : ∀ d i v, i + d = n → v < 2 ^ w → post (nI (dg_it w 6 d v)) → wY_shifts_6 post (nI 6) (nI n) (nI w) f s (d + 1) (nI v) (nI i) := by
  have hp := dg_p6 w h6
  have hq := dg_pp w (by omega)
  intro d
  induction d with
  | zero =>
    intro i v hi _ h
    obtain rfl : i = n := by omega
    exact br_t (nI_le (Nat.le_refl _) hn) h
  | succ d ih =>
    intro i v hi hv h
    have h' : post (nI (dg_it w 6 d (dg_st w 6 v))) := h
    have hb := dg_stB w (by omega) h2 v hv 6 (by decide)
    refine br_f (nI_ge (by omega) hn) (dg_szW _ w h6 f s ⟨by decide, ?_⟩)
    rw [dg_half h2 h6]
    have J := ih (i + 1) (dg_st w 6 v) (by omega) hb h'
    by_cases z : v < 2 ^ (w - 1)
    · have e : dg_tp w v = 0 := if_pos z
      simp only [dg_st, e] at J
      exact br_t (nI_lt z (by omega)) (dg_28_6 post _ w h6 f s _ v 0 i hv J)
    · have e : dg_tp w v = 1 := if_neg z
      simp only [dg_st, e] at J
      exact br_f (nI_nlt (by omega) (by omega)) (dg_28_6 post _ w h6 f s _ v 1 i hv J)
theorem dg_shL7 (post : Int32 → Prop) (w : Nat) (h2 : 2 ≤ w) (h6 : w ≤ 6) (f s : Int32) (n : Nat) (hn : n < 2 ^ 31) : ∀ d i v, i + d = n → v < 2 ^ w → post (nI (dg_it w 7 d v)) → wY_shifts_6 post (nI 7) (nI n) (nI w) f s (d + 1) (nI v) (nI i) := by
  have hp := dg_p6 w h6
  have hq := dg_pp w (by omega)
  intro d
  induction d with
  | zero =>
    intro i v hi _ h
    obtain rfl : i = n := by omega
    exact br_t (nI_le (Nat.le_refl _) hn) h
  | succ d ih =>
    intro i v hi hv h
    have h' : post (nI (dg_it w 7 d (dg_st w 7 v))) := h
    have hb := dg_stB w (by omega) h2 v hv 7 (by decide)
    refine br_f (nI_ge (by omega) hn) (dg_szW _ w h6 f s ⟨by decide, ?_⟩)
    rw [dg_half h2 h6]
    have J := ih (i + 1) (dg_st w 7 v) (by omega) hb h'
    by_cases z : v < 2 ^ (w - 1)
    · have e : dg_tp w v = 0 := if_pos z
      simp only [dg_st, e] at J
      exact br_t (nI_lt z (by omega)) (dg_28_7 post _ w h6 f s _ v 0 i hv J)
    · have e : dg_tp w v = 1 := if_neg z
      simp only [dg_st, e] at J
      exact br_f (nI_nlt (by omega) (by omega)) (dg_28_7 post _ w h6 f s _ v 1 i hv J)
theorem dg_shL8 (post : Int32 → Prop) (w : Nat) (h2 : 2 ≤ w) (h6 : w ≤ 6) (f s : Int32) (n : Nat) (hn : n < 2 ^ 31) : ∀ d i v, i + d = n → v < 2 ^ w → post (nI (dg_it w 8 d v)) → wY_shifts_6 post (nI 8) (nI n) (nI w) f s (d + 1) (nI v) (nI i) := by
  have hp := dg_p6 w h6
  have hq := dg_pp w (by omega)
  intro d
  induction d with
  | zero =>
    intro i v hi _ h
    obtain rfl : i = n := by omega
    exact br_t (nI_le (Nat.le_refl _) hn) h
  | succ d ih =>
    intro i v hi hv h
    have h' : post (nI (dg_it w 8 d (dg_st w 8 v))) := h
    have hb := dg_stB w (by omega) h2 v hv 8 (by decide)
    refine br_f (nI_ge (by omega) hn) (dg_szW _ w h6 f s ⟨by decide, ?_⟩)
    rw [dg_half h2 h6]
    have J := ih (i + 1) (dg_st w 8 v) (by omega) hb h'
    by_cases z : v < 2 ^ (w - 1)
    · have e : dg_tp w v = 0 := if_pos z
      simp only [dg_st, e] at J
      exact br_t (nI_lt z (by omega)) (dg_28_8 post _ w h2 h6 f s _ v 0 i hv J)
    · have e : dg_tp w v = 1 := if_neg z
      simp only [dg_st, e] at J
      exact br_f (nI_nlt (by omega) (by omega)) (dg_28_8 post _ w h2 h6 f s _ v 1 i hv J)
theorem dg_shL9 (post : Int32 → Prop) (w : Nat) (h2 : 2 ≤ w) (h6 : w ≤ 6) (f s : Int32) (n : Nat) (hn : n < 2 ^ 31) : ∀ d i v, i + d = n → v < 2 ^ w → post (nI (dg_it w 9 d v)) → wY_shifts_6 post (nI 9) (nI n) (nI w) f s (d + 1) (nI v) (nI i) := by
  have hp := dg_p6 w h6
  have hq := dg_pp w (by omega)
  intro d
  induction d with
  | zero =>
    intro i v hi _ h
    obtain rfl : i = n := by omega
    exact br_t (nI_le (Nat.le_refl _) hn) h
  | succ d ih =>
    intro i v hi hv h
    have h' : post (nI (dg_it w 9 d (dg_st w 9 v))) := h
    have hb := dg_stB w (by omega) h2 v hv 9 (by decide)
    refine br_f (nI_ge (by omega) hn) (dg_szW _ w h6 f s ⟨by decide, ?_⟩)
    rw [dg_half h2 h6]
    have J := ih (i + 1) (dg_st w 9 v) (by omega) hb h'
    by_cases z : v < 2 ^ (w - 1)
    · have e : dg_tp w v = 0 := if_pos z
      simp only [dg_st, e] at J
      exact br_t (nI_lt z (by omega)) (dg_28_9 post _ w h6 f s _ v 0 i hv J)
    · have e : dg_tp w v = 1 := if_neg z
      simp only [dg_st, e] at J
      exact br_f (nI_nlt (by omega) (by omega)) (dg_28_9 post _ w h6 f s _ v 1 i hv J)
/-! ones and zeros, from below -/
def dg_yo (x : Nat) : Nat → Nat → Nat → Nat
  | 0, _, o => o
  | d + 1, i, o => dg_yo x d (i + 1) (if x / 2 ^ i % 2 = 1 then o + 1 else o)
def dg_yz (x : Nat) : Nat → Nat → Nat → Nat
  | 0, _, z => z
  | d + 1, i, z => dg_yz x d (i + 1) (if x / 2 ^ i % 2 = 1 then 0 else z + 1)
theorem dg_t12 : ∀ w, w < 7 → 2 ≤ w → ∀ x, x < 2 ^ w → dg_yo x w 0 0 < 64 ∧ dg_yo x w 0 0 % 2 ^ w = dg_on x w 0 0 % 2 ^ w := by decide +kernel
theorem dg_t13 : ∀ w, w < 7 → 2 ≤ w → ∀ x, x < 2 ^ w → dg_yz x w 0 0 < 64 ∧ dg_yz x w 0 0 % 2 ^ w = dg_ze x w 0 1 % 2 ^ w := by decide +kernel
theorem dg_115_1 (post : Int32 → Prop) (J : Int32 → Int32 → Int32 → Prop) (k x w f s : Int32) (o z i : Nat) (h : J (nI (o + 1)) (nI 0) (nI (i + 1))) : wY_others_115 post J k x (nI o) (nI z) (nI i) 1 w f s :=
  br_f (by decide) (nm_r (nI_1 o) (br_f (by decide) (nm_r (nI_1 i) h)))
theorem dg_115_0 (post : Int32 → Prop) (J : Int32 → Int32 → Int32 → Prop) (k x w f s : Int32) (o z i : Nat) (h : J (nI o) (nI (z + 1)) (nI (i + 1))) : wY_others_115 post J k x (nI o) (nI z) (nI i) 0 w f s :=
  br_t (by decide) (br_t (by decide) (nm_r (nI_1 z) (nm_r (nI_1 i) h)))
theorem dg_otL12 (post : Int32 → Prop) (w : Nat) (h6 : w ≤ 6) (f s : Int32) (x : Nat) (hx : x < 2 ^ w) : ∀ d i o z, i + d = w → post (nI (dg_yo x d i o)) → wY_others_89 post (nI 12) (nI x) (nI w) f s (d + 1) (nI o) (nI z) (nI i) := by
  have hp := dg_p6 w h6
  intro d
  induction d with
  | zero =>
    intro i o z hi h
    obtain rfl : i = w := by omega
    exact br_t (nI_le (Nat.le_refl _) (by omega)) (br_t (by decide) h)
  | succ d ih =>
    intro i o z hi h
    have h' : post (nI (dg_yo x d (i + 1) (if x / 2 ^ i % 2 = 1 then o + 1 else o))) := h
    have hi6 := dg_p6 i (by omega)
    have hi0 := Nat.two_pow_pos i
    have hd : x / 2 ^ i ≤ x := Nat.div_le_self _ _
    have e : nI x / nI (2 ^ i) = nI (x / 2 ^ i) := pk_div (by omega) hi0 (by omega)
    have e2 : nI (x / 2 ^ i) - nI (x / 2 ^ i) / 2 * 2 = nI (x / 2 ^ i % 2) := pk_rem (d := 2) (by omega) (by decide) (by decide)
    refine br_f (nI_ge (by omega) (by omega)) ?_
    rw [dg_1s i (by omega), e, e2]
    refine ⟨nI_ne0 hi0 (by omega), by decide, ?_⟩
    by_cases q : x / 2 ^ i % 2 = 1
    · rw [if_pos q] at h'
      rw [q]
      exact br_t rfl (dg_115_1 post _ _ _ _ _ _ o z i (ih (i + 1) _ _ (by omega) h'))
    · rw [if_neg q] at h'
      rw [show x / 2 ^ i % 2 = 0 by omega]
      exact br_f (by decide) (dg_115_0 post _ _ _ _ _ _ o z i (ih (i + 1) _ _ (by omega) h'))
theorem dg_otL13 (post : Int32 → Prop) (w : Nat) (h6 : w ≤ 6) (f s : Int32) (x : Nat) (hx : x < 2 ^ w) : ∀ d i o z, i + d = w → post (nI (dg_yz x d i z)) → wY_others_89 post (nI 13) (nI x) (nI w) f s (d + 1) (nI o) (nI z) (nI i) := by
  have hp := dg_p6 w h6
  intro d
  induction d with
  | zero =>
    intro i o z hi h
    obtain rfl : i = w := by omega
    exact br_t (nI_le (Nat.le_refl _) (by omega)) (br_f (by decide) h)
  | succ d ih =>
    intro i o z hi h
    have h' : post (nI (dg_yz x d (i + 1) (if x / 2 ^ i % 2 = 1 then 0 else z + 1))) := h
    have hi6 := dg_p6 i (by omega)
    have hi0 := Nat.two_pow_pos i
    have hd : x / 2 ^ i ≤ x := Nat.div_le_self _ _
    have e : nI x / nI (2 ^ i) = nI (x / 2 ^ i) := pk_div (by omega) hi0 (by omega)
    have e2 : nI (x / 2 ^ i) - nI (x / 2 ^ i) / 2 * 2 = nI (x / 2 ^ i % 2) := pk_rem (d := 2) (by omega) (by decide) (by decide)
    refine br_f (nI_ge (by omega) (by omega)) ?_
    rw [dg_1s i (by omega), e, e2]
    refine ⟨nI_ne0 hi0 (by omega), by decide, ?_⟩
    by_cases q : x / 2 ^ i % 2 = 1
    · rw [if_pos q] at h'
      rw [q]
      exact br_t rfl (dg_115_1 post _ _ _ _ _ _ o z i (ih (i + 1) _ _ (by omega) h'))
    · rw [if_neg q] at h'
      rw [show x / 2 ^ i % 2 = 0 by omega]
      exact br_f (by decide) (dg_115_0 post _ _ _ _ _ _ o z i (ih (i + 1) _ _ (by omega) h'))
theorem dg_y0 (post : Int32 → Prop) (w : Nat) (h2 : 2 ≤ w) (h6 : w ≤ 6) (f s : Int32) (x y : Nat) (hx : x < 2 ^ w) (hy : y < 2 ^ w) (h : post (nI (dg_val w 0 x y))) : wpY_work post (nI w, f, s) (nI 0) (nI x) (nI y) := by
  have hp := dg_p6 w h6
  unfold wpY_work
  exact br_f (by decide) (br_t (by decide) (dg_w44 post w h6 f s _ _ (by rw [nI_add]; exact dg_fixN h6 (by omega)) h))
theorem dg_y1 (post : Int32 → Prop) (w : Nat) (h2 : 2 ≤ w) (h6 : w ≤ 6) (f s : Int32) (x y : Nat) (hx : x < 2 ^ w) (hy : y < 2 ^ w) (h : post (nI (dg_val w 1 x y))) : wpY_work post (nI w, f, s) (nI 1) (nI x) (nI y) := by
  have hp := dg_p6 w h6
  unfold wpY_work
  exact br_f (by decide) (br_f (by decide) (br_t (by decide) (dg_w44 post w h6 f s _ _ (dg_fixM w (by omega) x hx y hy) h)))
theorem dg_y2 (post : Int32 → Prop) (w : Nat) (h2 : 2 ≤ w) (h6 : w ≤ 6) (f s : Int32) (x y : Nat) (hx : x < 2 ^ w) (hy : y < 2 ^ w) (h : post (nI (dg_val w 2 x y))) : wpY_work post (nI w, f, s) (nI 2) (nI x) (nI y) := by
  have hp := dg_p6 w h6
  have hxy := dg_xy h6 hx hy
  unfold wpY_work
  exact br_f (by decide) (br_f (by decide) (br_f (by decide) (br_t (by decide) (dg_w44 post w h6 f s _ _ (by rw [pk_mul]; exact dg_fixN h6 (by omega)) h))))
theorem dg_y3 (post : Int32 → Prop) (w : Nat) (h2 : 2 ≤ w) (h6 : w ≤ 6) (f s : Int32) (x y : Nat) (hx : x < 2 ^ w) (hy : y < 2 ^ w) (h : post (nI (dg_val w 3 x y))) : wpY_work post (nI w, f, s) (nI 3) (nI x) (nI y) := by
  have hp := dg_p6 w h6
  have hxy := dg_xy h6 hx hy
  have hdv : x * y / 2 ^ w ≤ x * y := Nat.div_le_self _ _
  unfold wpY_work
  exact br_f (by decide) (br_f (by decide) (br_f (by decide) (br_f (by decide) (br_t (by decide) (dg_szW _ w h6 f s ⟨dg_s0 h6, dg_w44 post w h6 f s _ _ (by rw [pk_mul, pk_div (by omega) (Nat.two_pow_pos w) (by omega), dg_fixN h6 (by omega)]; exact congrArg nI (Nat.mod_eq_of_lt (Nat.div_lt_of_lt_mul (Nat.mul_lt_mul'' hx hy)))) h⟩)))))
theorem dg_y4 (post : Int32 → Prop) (w : Nat) (h2 : 2 ≤ w) (h6 : w ≤ 6) (f s : Int32) (x y : Nat) (hx : x < 2 ^ w) (hy : y < 2 ^ w) (h : post (nI (dg_val w 4 x y))) : wpY_work post (nI w, f, s) (nI 4) (nI x) (nI y) := by
  have hp := dg_p6 w h6
  have hp2 := dg_p2 w h2
  unfold wpY_work
  have h' : post (nI (dg_lt x y)) := h
  unfold dg_lt at h'
  refine br_f (by decide) (br_f (by decide) (br_f (by decide) (br_f (by decide) (br_f (by decide) (br_t (by decide) (pk_le y x (fun z => ?_) (fun z => ?_)))))))
  · rw [if_neg (by omega)] at h'
    exact dg_w44 post w h6 f s _ 0 ((dg_fixN (v := 0) h6 (by decide)).trans (congrArg nI (Nat.zero_mod _))) h'
  · rw [if_pos z] at h'
    exact dg_w44 post w h6 f s _ 1 ((dg_fixN (v := 1) h6 (by decide)).trans (congrArg nI (Nat.mod_eq_of_lt (by omega)))) h'
theorem dg_y5 (post : Int32 → Prop) (w : Nat) (h2 : 2 ≤ w) (h6 : w ≤ 6) (f s : Int32) (x y : Nat) (hx : x < 2 ^ w) (hy : y < 2 ^ w) (h : post (nI (dg_val w 5 x y))) : wpY_work post (nI w, f, s) (nI 5) (nI x) (nI y) := by
  have hp2 := dg_p2 w h2
  unfold wpY_work
  have ht := dg_t5 w (by omega) h2 x hx y hy
  refine br_f (by decide) (br_f (by decide) (br_f (by decide) (br_f (by decide) (br_f (by decide) (br_f (by decide) (dg_sdW _ w h2 h6 f s x hx (dg_sdW _ w h2 h6 f s y hy (br_c (fun z => ?_) (fun z => ?_)))))))))
  · rw [ht, if_pos z] at h
    exact dg_w44 post w h6 f s _ 0 ((dg_fixN (v := 0) h6 (by decide)).trans (congrArg nI (Nat.zero_mod _))) h
  · rw [ht, if_neg z] at h
    exact dg_w44 post w h6 f s _ 1 ((dg_fixN (v := 1) h6 (by decide)).trans (congrArg nI (Nat.mod_eq_of_lt (by omega)))) h
theorem dg_y6 (post : Int32 → Prop) (w : Nat) (h2 : 2 ≤ w) (h6 : w ≤ 6) (f s : Int32) (x y : Nat) (hx : x < 2 ^ w) (hy : y < 2 ^ w) (h : post (nI (dg_val w 6 x y))) : wpY_work post (nI w, f, s) (nI 6) (nI x) (nI y) := by
  have hp := dg_p6 w h6
  have hw0 : 0 < w := by omega
  have hm := Nat.mod_lt y hw0
  unfold wpY_work
  have ht := dg_it6 w (by omega) h2 x hx (y % w) hm
  refine br_t (by decide) (br_f (by decide) ⟨nI_ne0 hw0 (by omega), ?_⟩)
  rw [pk_rem (by omega) hw0 (by omega)]
  refine ⟨y % w + 1, dg_shL6 _ w h2 h6 f s (y % w) (by omega) (y % w) 0 x (by omega) hx ?_⟩
  exact dg_w44 post w h6 f s _ _ ((dg_fixN h6 (by omega)).trans (congrArg nI ht.2)) h
theorem dg_y7 (post : Int32 → Prop) (w : Nat) (h2 : 2 ≤ w) (h6 : w ≤ 6) (f s : Int32) (x y : Nat) (hx : x < 2 ^ w) (hy : y < 2 ^ w) (h : post (nI (dg_val w 7 x y))) : wpY_work post (nI w, f, s) (nI 7) (nI x) (nI y) := by
  have hp := dg_p6 w h6
  have hw0 : 0 < w := by omega
  have hm := Nat.mod_lt y hw0
  unfold wpY_work
  have ht := dg_it7 w (by omega) h2 x hx (y % w) hm
  refine br_t (by decide) (br_f (by decide) ⟨nI_ne0 hw0 (by omega), ?_⟩)
  rw [pk_rem (by omega) hw0 (by omega)]
  refine ⟨y % w + 1, dg_shL7 _ w h2 h6 f s (y % w) (by omega) (y % w) 0 x (by omega) hx ?_⟩
  exact dg_w44 post w h6 f s _ _ ((dg_fixN h6 (by omega)).trans (congrArg nI ht.2)) h
theorem dg_y8 (post : Int32 → Prop) (w : Nat) (h2 : 2 ≤ w) (h6 : w ≤ 6) (f s : Int32) (x y : Nat) (hx : x < 2 ^ w) (hy : y < 2 ^ w) (h : post (nI (dg_val w 8 x y))) : wpY_work post (nI w, f, s) (nI 8) (nI x) (nI y) := by
  have hp := dg_p6 w h6
  have hw0 : 0 < w := by omega
  have hm := Nat.mod_lt y hw0
  unfold wpY_work
  have ht := dg_it8 w (by omega) h2 x hx (y % w) hm
  refine br_t (by decide) (br_f (by decide) ⟨nI_ne0 hw0 (by omega), ?_⟩)
  rw [pk_rem (by omega) hw0 (by omega)]
  refine ⟨y % w + 1, dg_shL8 _ w h2 h6 f s (y % w) (by omega) (y % w) 0 x (by omega) hx ?_⟩
  exact dg_w44 post w h6 f s _ _ ((dg_fixN h6 (by omega)).trans (congrArg nI ht.2)) h
theorem dg_y9 (post : Int32 → Prop) (w : Nat) (h2 : 2 ≤ w) (h6 : w ≤ 6) (f s : Int32) (x y : Nat) (hx : x < 2 ^ w) (hy : y < 2 ^ w) (h : post (nI (dg_val w 9 x y))) : wpY_work post (nI w, f, s) (nI 9) (nI x) (nI y) := by
  have hp := dg_p6 w h6
  have hw0 : 0 < w := by omega
  have hm := Nat.mod_lt y hw0
  unfold wpY_work
  have ht := dg_it9 w (by omega) h2 x hx (y % w) hm
  refine br_t (by decide) (br_f (by decide) ⟨nI_ne0 hw0 (by omega), ?_⟩)
  rw [pk_rem (by omega) hw0 (by omega)]
  refine ⟨y % w + 1, dg_shL9 _ w h2 h6 f s (y % w) (by omega) (y % w) 0 x (by omega) hx ?_⟩
  exact dg_w44 post w h6 f s _ _ ((dg_fixN h6 (by omega)).trans (congrArg nI ht.2)) h
theorem dg_y10 (post : Int32 → Prop) (w : Nat) (h2 : 2 ≤ w) (h6 : w ≤ 6) (f s : Int32) (x y : Nat) (hx : x < 2 ^ w) (hy : y < 2 ^ w) (h : post (nI (dg_val w 10 x y))) : wpY_work post (nI w, f, s) (nI 10) (nI x) (nI y) := by
  have hp := dg_p6 w h6
  unfold wpY_work
  have h' : post (nI (if dg_lt x y = 1 then x else y)) := h
  refine br_t (by decide) (br_t (by decide) (br_t (by decide) (pk_le y x (fun z => ?_) (fun z => ?_))))
  · rw [show dg_lt x y = 0 from if_neg (by omega), if_neg (by decide)] at h'
    exact dg_w44 post w h6 f s _ y ((dg_fixN h6 (by omega)).trans (congrArg nI (Nat.mod_eq_of_lt hy))) h'
  · rw [show dg_lt x y = 1 from if_pos z, if_pos rfl] at h'
    exact dg_w44 post w h6 f s _ x ((dg_fixN h6 (by omega)).trans (congrArg nI (Nat.mod_eq_of_lt hx))) h'
theorem dg_y11 (post : Int32 → Prop) (w : Nat) (h2 : 2 ≤ w) (h6 : w ≤ 6) (f s : Int32) (x y : Nat) (hx : x < 2 ^ w) (hy : y < 2 ^ w) (h : post (nI (dg_val w 11 x y))) : wpY_work post (nI w, f, s) (nI 11) (nI x) (nI y) := by
  have hp := dg_p6 w h6
  unfold wpY_work
  have ht := dg_t11 w (by omega) h2 x hx y hy
  refine br_t (by decide) (br_t (by decide) (br_f (by decide) (br_t (by decide) (dg_sdW _ w h2 h6 f s x hx (dg_sdW _ w h2 h6 f s y hy (br_c (fun z => ?_) (fun z => ?_)))))))
  · rw [ht, if_pos z] at h
    exact dg_w44 post w h6 f s _ y ((dg_fixN h6 (by omega)).trans (congrArg nI (Nat.mod_eq_of_lt hy))) h
  · rw [ht, if_neg z] at h
    exact dg_w44 post w h6 f s _ x ((dg_fixN h6 (by omega)).trans (congrArg nI (Nat.mod_eq_of_lt hx))) h
theorem dg_y12 (post : Int32 → Prop) (w : Nat) (h2 : 2 ≤ w) (h6 : w ≤ 6) (f s : Int32) (x y : Nat) (hx : x < 2 ^ w) (hy : y < 2 ^ w) (h : post (nI (dg_val w 12 x y))) : wpY_work post (nI w, f, s) (nI 12) (nI x) (nI y) := by
  unfold wpY_work
  have ht := dg_t12 w (by omega) h2 x hx
  refine br_t (by decide) (br_t (by decide) (br_f (by decide) (br_f (by decide) (br_f (by decide) (br_f (by decide) ⟨w + 1, dg_otL12 _ w h6 f s x hx w 0 0 0 (by omega) ?_⟩)))))
  exact dg_w44 post w h6 f s _ _ ((dg_fixN h6 (by omega)).trans (congrArg nI ht.2)) h
theorem dg_y13 (post : Int32 → Prop) (w : Nat) (h2 : 2 ≤ w) (h6 : w ≤ 6) (f s : Int32) (x y : Nat) (hx : x < 2 ^ w) (hy : y < 2 ^ w) (h : post (nI (dg_val w 13 x y))) : wpY_work post (nI w, f, s) (nI 13) (nI x) (nI y) := by
  unfold wpY_work
  have ht := dg_t13 w (by omega) h2 x hx
  refine br_t (by decide) (br_t (by decide) (br_f (by decide) (br_f (by decide) (br_f (by decide) (br_f (by decide) ⟨w + 1, dg_otL13 _ w h6 f s x hx w 0 0 0 (by omega) ?_⟩)))))
  exact dg_w44 post w h6 f s _ _ ((dg_fixN h6 (by omega)).trans (congrArg nI ht.2)) h
theorem dg_y14 (post : Int32 → Prop) (w : Nat) (h2 : 2 ≤ w) (h6 : w ≤ 6) (f s : Int32) (x y : Nat) (hx : x < 2 ^ w) (hy : y < 2 ^ w) (h : post (nI (dg_val w 14 x y))) : wpY_work post (nI w, f, s) (nI 14) (nI x) (nI y) := by
  have hp := dg_p6 w h6
  unfold wpY_work
  have ht := dg_t14 w (by omega) h2 x hx
  have h' : post (nI (dg_ab w x)) := h
  refine br_t (by decide) (br_t (by decide) (br_f (by decide) (br_f (by decide) (br_t (by decide) (dg_sdW _ w h2 h6 f s x hx (br_c (fun z => ?_) (fun z => ?_)))))))
  · rw [ht.1 z] at h'
    exact dg_w44 post w h6 f s _ x ((dg_fixN h6 (by omega)).trans (congrArg nI (Nat.mod_eq_of_lt hx))) h'
  · exact dg_sdW _ w h2 h6 f s x hx (dg_w44 post w h6 f s _ _ (ht.2 z) h')
theorem dg_y15 (post : Int32 → Prop) (w : Nat) (h2 : 2 ≤ w) (h6 : w ≤ 6) (f s : Int32) (x y : Nat) (hx : x < 2 ^ w) (hy : y < 2 ^ w) (h : post (nI (dg_val w 15 x y))) : wpY_work post (nI w, f, s) (nI 15) (nI x) (nI y) := by
  have hp := dg_p6 w h6
  unfold wpY_work
  have h' : post (nI ((x + y) / 2)) := h
  refine br_t (by decide) (br_t (by decide) (br_f (by decide) (br_f (by decide) (br_f (by decide) (br_t (by decide) ⟨by decide, ?_⟩)))))
  rw [nI_add, dg_hf (by omega)]
  exact dg_w44 post w h6 f s _ _ ((dg_fixN h6 (by omega)).trans (congrArg nI (Nat.mod_eq_of_lt (by omega)))) h'
theorem dg_Y (post : Int32 → Prop) (w : Nat) (h2 : 2 ≤ w) (h6 : w ≤ 6) (f s : Int32) (op x y : Nat) (ho : op < 16) (hx : x < 2 ^ w) (hy : y < 2 ^ w) (h : post (nI (dg_val w op x y))) : wpY_work post (nI w, f, s) (nI op) (nI x) (nI y) := by
  have hc : op = 0 ∨ op = 1 ∨ op = 2 ∨ op = 3 ∨ op = 4 ∨ op = 5 ∨ op = 6 ∨ op = 7 ∨ op = 8 ∨ op = 9 ∨ op = 10 ∨ op = 11 ∨ op = 12 ∨ op = 13 ∨ op = 14 ∨ op = 15 := by omega
  rcases hc with rfl | rfl | rfl | rfl | rfl | rfl | rfl | rfl | rfl | rfl | rfl | rfl | rfl | rfl | rfl | rfl
  · exact dg_y0 post w h2 h6 f s x y hx hy h
  · exact dg_y1 post w h2 h6 f s x y hx hy h
  · exact dg_y2 post w h2 h6 f s x y hx hy h
  · exact dg_y3 post w h2 h6 f s x y hx hy h
  · exact dg_y4 post w h2 h6 f s x y hx hy h
  · exact dg_y5 post w h2 h6 f s x y hx hy h
  · exact dg_y6 post w h2 h6 f s x y hx hy h
  · exact dg_y7 post w h2 h6 f s x y hx hy h
  · exact dg_y8 post w h2 h6 f s x y hx hy h
  · exact dg_y9 post w h2 h6 f s x y hx hy h
  · exact dg_y10 post w h2 h6 f s x y hx hy h
  · exact dg_y11 post w h2 h6 f s x y hx hy h
  · exact dg_y12 post w h2 h6 f s x y hx hy h
  · exact dg_y13 post w h2 h6 f s x y hx hy h
  · exact dg_y14 post w h2 h6 f s x y hx hy h
  · exact dg_y15 post w h2 h6 f s x y hx hy h
