/-! the reference's small walks -/
theorem dg_szW (post : Int32 → Prop) (w : Nat) (h6 : w ≤ 6) (f s : Int32) (h : post (nI (2 ^ w))) : wpY_size post (nI w, f, s) := dg_at (P := post) (dg_1s w (by omega)) h
theorem dg_s0 {w : Nat} (h6 : w ≤ 6) : ¬ nI (2 ^ w) = 0 := nI_ne0 (Nat.two_pow_pos w) (by have := dg_p6 w h6; omega)
def dg_fix (S z : Int32) : Int32 := ((z - z / S * S) + S) - ((z - z / S * S) + S) / S * S
theorem dg_w44 (post : Int32 → Prop) (w : Nat) (h6 : w ≤ 6) (f s z : Int32) (v : Nat) (e : dg_fix (nI (2 ^ w)) z = nI v) (h : post (nI v)) : wY_work_44 post z (nI w) f s := by
  unfold wY_work_44
  exact dg_szW _ w h6 f s ⟨dg_s0 h6, dg_szW _ w h6 f s (dg_szW _ w h6 f s ⟨dg_s0 h6, dg_at (P := post) e h⟩)⟩
theorem dg_fixN {w v : Nat} (h6 : w ≤ 6) (hv : v < 2 ^ 30) : dg_fix (nI (2 ^ w)) (nI v) = nI (v % 2 ^ w) := by
  have hp := dg_p6 w h6
  have h0 := Nat.two_pow_pos w
  have hm := Nat.mod_lt v h0
  unfold dg_fix
  rw [pk_rem (by omega) h0 (by omega), nI_add, pk_rem (by omega) h0 (by omega), Nat.add_mod_right, Nat.mod_mod]
theorem dg_fixM : ∀ w, w < 7 → ∀ x, x < 2 ^ w → ∀ y, y < 2 ^ w → dg_fix (nI (2 ^ w)) (nI x - nI y) = nI ((x + (65536 - y)) % 65536 % 2 ^ w) := by decide +kernel
def dg_sg (w x : Nat) : Int32 := if 2 ^ (w - 1) ≤ x then nI x - nI (2 ^ w) else nI x
theorem dg_half {w : Nat} (h2 : 2 ≤ w) (h6 : w ≤ 6) : nI (2 ^ w) / 2 = nI (2 ^ (w - 1)) := by
  have hp := dg_p6 w h6
  have hq := dg_pp w (by omega)
  exact (pk_div (a := 2 ^ w) (d := 2) (by omega) (by decide) (by decide)).trans (congrArg nI (by omega))
theorem dg_sdW (post : Int32 → Prop) (w : Nat) (h2 : 2 ≤ w) (h6 : w ≤ 6) (f s : Int32) (x : Nat) (hx : x < 2 ^ w) (h : post (dg_sg w x)) : wpY_signed post (nI w, f, s) (nI x) := by
  unfold wpY_signed
  have hp := dg_p6 w h6
  have hq := dg_pp w (by omega)
  refine dg_szW _ w h6 f s ⟨by decide, ?_⟩
  rw [dg_half h2 h6]
  unfold dg_sg at h
  by_cases z : 2 ^ (w - 1) ≤ x
  · rw [if_pos z] at h
    exact br_t (nI_le z (by omega)) (dg_szW _ w h6 f s h)
  · rw [if_neg z] at h
    exact br_f (nI_ge (by omega) (by omega)) h
/-! signed order, by tables -/
theorem dg_t5 : ∀ w, w < 7 → 2 ≤ w → ∀ x, x < 2 ^ w → ∀ y, y < 2 ^ w → dg_val w 5 x y = if dg_sg w y ≤ dg_sg w x then 0 else 1 := by decide +kernel
theorem dg_t11 : ∀ w, w < 7 → 2 ≤ w → ∀ x, x < 2 ^ w → ∀ y, y < 2 ^ w → dg_val w 11 x y = if dg_sg w x ≤ dg_sg w y then y else x := by decide +kernel
theorem dg_t14 : ∀ w, w < 7 → 2 ≤ w → ∀ x, x < 2 ^ w → (0 ≤ dg_sg w x → dg_ab w x = x) ∧ (¬ 0 ≤ dg_sg w x → dg_fix (nI (2 ^ w)) (0 - dg_sg w x) = nI (dg_ab w x)) := by decide +kernel
/-! shifts, a turn at a time -/
def dg_tp (w v : Nat) : Nat := if v < 2 ^ (w - 1) then 0 else 1
def dg_st (w k v : Nat) : Nat := match k with
  | 6 => v * 2 % 2 ^ w
  | 7 => v / 2
  | 8 => v / 2 + dg_tp w v * 2 ^ (w - 1)
  | _ => v * 2 % 2 ^ w + dg_tp w v
def dg_it (w k : Nat) : Nat → Nat → Nat
  | 0, v => v
  | d + 1, v => dg_it w k d (dg_st w k v)
theorem dg_stB : ∀ w, w < 7 → 2 ≤ w → ∀ v, v < 2 ^ w → ∀ k, k < 10 → dg_st w k v < 2 ^ w := by decide +kernel
theorem dg_it6 : ∀ w, w < 7 → 2 ≤ w → ∀ x, x < 2 ^ w → ∀ n, n < w → dg_it w 6 n x < 64 ∧ dg_it w 6 n x % 2 ^ w = x * 2 ^ n % 2 ^ w := by decide +kernel
theorem dg_it7 : ∀ w, w < 7 → 2 ≤ w → ∀ x, x < 2 ^ w → ∀ n, n < w → dg_it w 7 n x < 64 ∧ dg_it w 7 n x % 2 ^ w = x / 2 ^ n := by decide +kernel
theorem dg_it8 : ∀ w, w < 7 → 2 ≤ w → ∀ x, x < 2 ^ w → ∀ n, n < w → dg_it w 8 n x < 64 ∧ dg_it w 8 n x % 2 ^ w = (x ||| dg_hi w x) / 2 ^ n % 2 ^ w := by decide +kernel
theorem dg_it9 : ∀ w, w < 7 → 2 ≤ w → ∀ x, x < 2 ^ w → ∀ n, n < w → dg_it w 9 n x < 64 ∧ dg_it w 9 n x % 2 ^ w = (x * 2 ^ n ||| x * 2 ^ n / 2 ^ w) % 2 ^ w := by decide +kernel
theorem dg_dbl {w v : Nat} (h6 : w ≤ 6) (hv : v < 2 ^ w) : nI v * 2 - nI v * 2 / nI (2 ^ w) * nI (2 ^ w) = nI (v * 2 % 2 ^ w) := by
  have hp := dg_p6 w h6
  rw [show nI v * 2 = nI (v * 2) from pk_mul v 2]
  exact pk_rem (by omega) (Nat.two_pow_pos w) (by omega)
theorem dg_hf {v : Nat} (hv : v < 2 ^ 31) : nI v / 2 = nI (v / 2) := pk_div (d := 2) hv (by decide) (by decide)
theorem dg_28_6 (post : Int32 → Prop) (J : Int32 → Int32 → Prop) (w : Nat) (h6 : w ≤ 6) (f s c : Int32) (v q i : Nat) (hv : v < 2 ^ w) (h : J (nI (v * 2 % 2 ^ w)) (nI (i + 1))) : wY_shifts_28 post J (nI 6) c (nI v) (nI i) (nI q) (nI w) f s := by
  unfold wY_shifts_28
  exact br_t (by decide) (dg_szW _ w h6 f s ⟨dg_s0 h6, nm_r (dg_dbl h6 hv) (br_f (by decide) (br_f (by decide) (br_f (by decide) (nm_r (nI_1 i) h))))⟩)
theorem dg_28_7 (post : Int32 → Prop) (J : Int32 → Int32 → Prop) (w : Nat) (h6 : w ≤ 6) (f s c : Int32) (v q i : Nat) (hv : v < 2 ^ w) (h : J (nI (v / 2)) (nI (i + 1))) : wY_shifts_28 post J (nI 7) c (nI v) (nI i) (nI q) (nI w) f s := by
  have hp := dg_p6 w h6
  unfold wY_shifts_28
  exact br_f (by decide) (br_t (by decide) ⟨by decide, nm_r (dg_hf (by omega)) (br_f (by decide) (br_f (by decide) (nm_r (nI_1 i) h)))⟩)
theorem dg_28_8 (post : Int32 → Prop) (J : Int32 → Int32 → Prop) (w : Nat) (h2 : 2 ≤ w) (h6 : w ≤ 6) (f s c : Int32) (v q i : Nat) (hv : v < 2 ^ w) (h : J (nI (v / 2 + q * 2 ^ (w - 1))) (nI (i + 1))) : wY_shifts_28 post J (nI 8) c (nI v) (nI i) (nI q) (nI w) f s := by
  have hp := dg_p6 w h6
  unfold wY_shifts_28
  exact br_f (by decide) (br_f (by decide) (br_t (by decide) ⟨by decide, dg_szW _ w h6 f s ⟨by decide, nm_r (by rw [dg_half h2 h6, dg_hf (by omega), pk_mul, nI_add]) (br_f (by decide) (nm_r (nI_1 i) h))⟩⟩))
theorem dg_28_9 (post : Int32 → Prop) (J : Int32 → Int32 → Prop) (w : Nat) (h6 : w ≤ 6) (f s c : Int32) (v q i : Nat) (hv : v < 2 ^ w) (h : J (nI (v * 2 % 2 ^ w + q)) (nI (i + 1))) : wY_shifts_28 post J (nI 9) c (nI v) (nI i) (nI q) (nI w) f s := by
  unfold wY_shifts_28
  exact br_f (by decide) (br_f (by decide) (br_f (by decide) (br_t (by decide) (dg_szW _ w h6 f s ⟨dg_s0 h6, nm_r (by rw [dg_dbl h6 hv, nI_add]) (nm_r (nI_1 i) h)⟩))))
