/-! the value of an operation -/
def dg_val (w op x y : Nat) : Nat := match op with
  | 0 => (x + y) % 2 ^ w
  | 1 => (x + (65536 - y)) % 65536 % 2 ^ w
  | 2 => x * y % 2 ^ w
  | 3 => x * y / 2 ^ w
  | 4 => dg_lt x y
  | 5 => dg_lt (x ^^^ 2 ^ (w - 1)) (y ^^^ 2 ^ (w - 1))
  | 6 => x * 2 ^ (y % w) % 2 ^ w
  | 7 => x / 2 ^ (y % w)
  | 8 => (x ||| dg_hi w x) / 2 ^ (y % w) % 2 ^ w
  | 9 => (x * 2 ^ (y % w) ||| x * 2 ^ (y % w) / 2 ^ w) % 2 ^ w
  | 10 => if dg_lt x y = 1 then x else y
  | 11 => if dg_lt (x ^^^ 2 ^ (w - 1)) (y ^^^ 2 ^ (w - 1)) = 1 then y else x
  | 12 => dg_on x w 0 0 % 2 ^ w
  | 13 => dg_ze x w 0 1 % 2 ^ w
  | 14 => dg_ab w x
  | _ => (x + y) / 2
theorem dg_lt1 (x y : Nat) : dg_lt x y ≤ 1 := by unfold dg_lt; split <;> omega
theorem dg_xy {w x y : Nat} (h6 : w ≤ 6) (hx : x < 2 ^ w) (hy : y < 2 ^ w) : x * y < 4096 := by
  have hp := dg_p6 w h6
  have h := Nat.mul_le_mul (show x ≤ 63 by omega) (show y ≤ 63 by omega)
  omega
theorem dg_xx {w x : Nat} (h2 : 2 ≤ w) (hx : x < 2 ^ w) : x ^^^ 2 ^ (w - 1) < 2 ^ w := Nat.xor_lt_two_pow hx (Nat.pow_lt_pow_right (by decide) (by omega))
theorem dg_yw {w : Nat} (y : Nat) (h2 : 2 ≤ w) (h6 : w ≤ 6) : y % w < 8 := by
  have h := Nat.mod_lt y (show 0 < w by omega)
  omega
theorem dg_o0 (post : Int32 → Prop) (w : Nat) (h2 : 2 ≤ w) (h6 : w ≤ 6) (t a b : Int32) (x y : Nat) (hx : x < 2 ^ w) (hy : y < 2 ^ w) (h : post (nI (dg_val w 0 x y))) : wpX_outcome post (nI w, nI (2 ^ w - 1), t, a, b) (nI 0) (nI x) (nI y) := by
  have hp := dg_p6 w h6
  have hx2 := dg_xx h2 hx
  have hy2 := dg_xx h2 hy
  unfold wpX_outcome
  refine nm_r (e' := nI (2 ^ (w - 1))) (by rw [dg_pred (by omega)]; exact dg_1s (w - 1) (by omega)) ?_
  rw [nx_xor, nx_xor]
  refine dg_belW _ _ _ _ _ _ _ _ (by omega) (by omega) (dg_belW _ _ _ _ _ _ _ _ (by omega) (by omega) (dg_amW _ w h2 h6 _ _ _ _ y hy ?_))
  refine br_f (by decide) (br_f (by decide) (br_t (by decide) (?_)))
  exact dg_sumW _ _ _ _ _ _ x y 0 (by decide) (dg_at (P := post) ((dg_msk _ w).trans (congrArg nI (by show _ = (x + y) % 2 ^ w; rw [Nat.add_zero, Nat.mod_eq_of_lt (show x + y < 65536 by omega)]))) h)
theorem dg_o1 (post : Int32 → Prop) (w : Nat) (h2 : 2 ≤ w) (h6 : w ≤ 6) (t a b : Int32) (x y : Nat) (hx : x < 2 ^ w) (hy : y < 2 ^ w) (h : post (nI (dg_val w 1 x y))) : wpX_outcome post (nI w, nI (2 ^ w - 1), t, a, b) (nI 1) (nI x) (nI y) := by
  have hp := dg_p6 w h6
  have hx2 := dg_xx h2 hx
  have hy2 := dg_xx h2 hy
  unfold wpX_outcome
  refine nm_r (e' := nI (2 ^ (w - 1))) (by rw [dg_pred (by omega)]; exact dg_1s (w - 1) (by omega)) ?_
  rw [nx_xor, nx_xor]
  refine dg_belW _ _ _ _ _ _ _ _ (by omega) (by omega) (dg_belW _ _ _ _ _ _ _ _ (by omega) (by omega) (dg_amW _ w h2 h6 _ _ _ _ y hy ?_))
  refine br_f (by decide) (br_f (by decide) (br_f (by decide) (br_t (by decide) (?_))))
  exact dg_difW _ _ _ _ _ _ x y (by omega) (dg_at (P := post) (dg_msk _ w) h)
theorem dg_o2 (post : Int32 → Prop) (w : Nat) (h2 : 2 ≤ w) (h6 : w ≤ 6) (t a b : Int32) (x y : Nat) (hx : x < 2 ^ w) (hy : y < 2 ^ w) (h : post (nI (dg_val w 2 x y))) : wpX_outcome post (nI w, nI (2 ^ w - 1), t, a, b) (nI 2) (nI x) (nI y) := by
  have hp := dg_p6 w h6
  have hx2 := dg_xx h2 hx
  have hy2 := dg_xx h2 hy
  unfold wpX_outcome
  refine nm_r (e' := nI (2 ^ (w - 1))) (by rw [dg_pred (by omega)]; exact dg_1s (w - 1) (by omega)) ?_
  rw [nx_xor, nx_xor]
  refine dg_belW _ _ _ _ _ _ _ _ (by omega) (by omega) (dg_belW _ _ _ _ _ _ _ _ (by omega) (by omega) (dg_amW _ w h2 h6 _ _ _ _ y hy ?_))
  refine br_f (by decide) (br_f (by decide) (br_f (by decide) (br_f (by decide) (br_t (by decide) (?_)))))
  exact dg_prW _ w h6 _ _ _ _ x y hx hy (dg_at (P := post) (dg_msk _ w) h)
theorem dg_o3 (post : Int32 → Prop) (w : Nat) (h2 : 2 ≤ w) (h6 : w ≤ 6) (t a b : Int32) (x y : Nat) (hx : x < 2 ^ w) (hy : y < 2 ^ w) (h : post (nI (dg_val w 3 x y))) : wpX_outcome post (nI w, nI (2 ^ w - 1), t, a, b) (nI 3) (nI x) (nI y) := by
  have hp := dg_p6 w h6
  have hx2 := dg_xx h2 hx
  have hy2 := dg_xx h2 hy
  unfold wpX_outcome
  refine nm_r (e' := nI (2 ^ (w - 1))) (by rw [dg_pred (by omega)]; exact dg_1s (w - 1) (by omega)) ?_
  rw [nx_xor, nx_xor]
  refine dg_belW _ _ _ _ _ _ _ _ (by omega) (by omega) (dg_belW _ _ _ _ _ _ _ _ (by omega) (by omega) (dg_amW _ w h2 h6 _ _ _ _ y hy ?_))
  refine br_f (by decide) (br_f (by decide) (br_f (by decide) (br_f (by decide) (br_f (by decide) (br_t (by decide) (?_))))))
  exact dg_prW _ w h6 _ _ _ _ x y hx hy (dg_at (P := post) (dg_shr (by omega) (Nat.lt_trans (dg_xy h6 hx hy) (by decide))) h)
theorem dg_o4 (post : Int32 → Prop) (w : Nat) (h2 : 2 ≤ w) (h6 : w ≤ 6) (t a b : Int32) (x y : Nat) (hx : x < 2 ^ w) (hy : y < 2 ^ w) (h : post (nI (dg_val w 4 x y))) : wpX_outcome post (nI w, nI (2 ^ w - 1), t, a, b) (nI 4) (nI x) (nI y) := by
  have hp := dg_p6 w h6
  have hx2 := dg_xx h2 hx
  have hy2 := dg_xx h2 hy
  unfold wpX_outcome
  refine nm_r (e' := nI (2 ^ (w - 1))) (by rw [dg_pred (by omega)]; exact dg_1s (w - 1) (by omega)) ?_
  rw [nx_xor, nx_xor]
  refine dg_belW _ _ _ _ _ _ _ _ (by omega) (by omega) (dg_belW _ _ _ _ _ _ _ _ (by omega) (by omega) (dg_amW _ w h2 h6 _ _ _ _ y hy ?_))
  refine br_f (by decide) (br_f (by decide) (br_f (by decide) (br_f (by decide) (br_f (by decide) (br_f (by decide) (br_t (by decide) (?_)))))))
  exact h
theorem dg_o5 (post : Int32 → Prop) (w : Nat) (h2 : 2 ≤ w) (h6 : w ≤ 6) (t a b : Int32) (x y : Nat) (hx : x < 2 ^ w) (hy : y < 2 ^ w) (h : post (nI (dg_val w 5 x y))) : wpX_outcome post (nI w, nI (2 ^ w - 1), t, a, b) (nI 5) (nI x) (nI y) := by
  have hp := dg_p6 w h6
  have hx2 := dg_xx h2 hx
  have hy2 := dg_xx h2 hy
  unfold wpX_outcome
  refine nm_r (e' := nI (2 ^ (w - 1))) (by rw [dg_pred (by omega)]; exact dg_1s (w - 1) (by omega)) ?_
  rw [nx_xor, nx_xor]
  refine dg_belW _ _ _ _ _ _ _ _ (by omega) (by omega) (dg_belW _ _ _ _ _ _ _ _ (by omega) (by omega) (dg_amW _ w h2 h6 _ _ _ _ y hy ?_))
  refine br_f (by decide) (br_f (by decide) (br_f (by decide) (br_f (by decide) (br_f (by decide) (br_f (by decide) (br_f (by decide) (br_t (by decide) (?_))))))))
  exact h
theorem dg_o6 (post : Int32 → Prop) (w : Nat) (h2 : 2 ≤ w) (h6 : w ≤ 6) (t a b : Int32) (x y : Nat) (hx : x < 2 ^ w) (hy : y < 2 ^ w) (h : post (nI (dg_val w 6 x y))) : wpX_outcome post (nI w, nI (2 ^ w - 1), t, a, b) (nI 6) (nI x) (nI y) := by
  have hp := dg_p6 w h6
  have hx2 := dg_xx h2 hx
  have hy2 := dg_xx h2 hy
  unfold wpX_outcome
  refine nm_r (e' := nI (2 ^ (w - 1))) (by rw [dg_pred (by omega)]; exact dg_1s (w - 1) (by omega)) ?_
  rw [nx_xor, nx_xor]
  refine dg_belW _ _ _ _ _ _ _ _ (by omega) (by omega) (dg_belW _ _ _ _ _ _ _ _ (by omega) (by omega) (dg_amW _ w h2 h6 _ _ _ _ y hy ?_))
  refine br_f (by decide) (br_f (by decide) (br_f (by decide) (br_f (by decide) (br_f (by decide) (br_f (by decide) (br_f (by decide) (br_f (by decide) (br_t (by decide) (?_)))))))))
  exact dg_slW _ x _ (by omega) (dg_yw y h2 h6) (dg_at (P := post) (dg_msk _ w) h)
theorem dg_o7 (post : Int32 → Prop) (w : Nat) (h2 : 2 ≤ w) (h6 : w ≤ 6) (t a b : Int32) (x y : Nat) (hx : x < 2 ^ w) (hy : y < 2 ^ w) (h : post (nI (dg_val w 7 x y))) : wpX_outcome post (nI w, nI (2 ^ w - 1), t, a, b) (nI 7) (nI x) (nI y) := by
  have hp := dg_p6 w h6
  have hx2 := dg_xx h2 hx
  have hy2 := dg_xx h2 hy
  unfold wpX_outcome
  refine nm_r (e' := nI (2 ^ (w - 1))) (by rw [dg_pred (by omega)]; exact dg_1s (w - 1) (by omega)) ?_
  rw [nx_xor, nx_xor]
  refine dg_belW _ _ _ _ _ _ _ _ (by omega) (by omega) (dg_belW _ _ _ _ _ _ _ _ (by omega) (by omega) (dg_amW _ w h2 h6 _ _ _ _ y hy ?_))
  refine br_f (by decide) (br_f (by decide) (br_f (by decide) (br_f (by decide) (br_f (by decide) (br_f (by decide) (br_f (by decide) (br_f (by decide) (br_f (by decide) (br_t (by decide) (?_))))))))))
  exact dg_srW _ x _ (by omega) (dg_yw y h2 h6) h
theorem dg_o8 (post : Int32 → Prop) (w : Nat) (h2 : 2 ≤ w) (h6 : w ≤ 6) (t a b : Int32) (x y : Nat) (hx : x < 2 ^ w) (hy : y < 2 ^ w) (h : post (nI (dg_val w 8 x y))) : wpX_outcome post (nI w, nI (2 ^ w - 1), t, a, b) (nI 8) (nI x) (nI y) := by
  have hp := dg_p6 w h6
  have hx2 := dg_xx h2 hx
  have hy2 := dg_xx h2 hy
  unfold wpX_outcome
  refine nm_r (e' := nI (2 ^ (w - 1))) (by rw [dg_pred (by omega)]; exact dg_1s (w - 1) (by omega)) ?_
  rw [nx_xor, nx_xor]
  refine dg_belW _ _ _ _ _ _ _ _ (by omega) (by omega) (dg_belW _ _ _ _ _ _ _ _ (by omega) (by omega) (dg_amW _ w h2 h6 _ _ _ _ y hy ?_))
  refine br_f (by decide) (br_f (by decide) (br_f (by decide) (br_f (by decide) (br_f (by decide) (br_f (by decide) (br_f (by decide) (br_f (by decide) (br_f (by decide) (br_f (by decide) (br_t (by decide) (?_)))))))))))
  exact dg_sgW _ w h2 h6 _ _ _ x _ hx (dg_yw y h2 h6) h
theorem dg_o9 (post : Int32 → Prop) (w : Nat) (h2 : 2 ≤ w) (h6 : w ≤ 6) (t a b : Int32) (x y : Nat) (hx : x < 2 ^ w) (hy : y < 2 ^ w) (h : post (nI (dg_val w 9 x y))) : wpX_outcome post (nI w, nI (2 ^ w - 1), t, a, b) (nI 9) (nI x) (nI y) := by
  have hp := dg_p6 w h6
  have hx2 := dg_xx h2 hx
  have hy2 := dg_xx h2 hy
  unfold wpX_outcome
  refine nm_r (e' := nI (2 ^ (w - 1))) (by rw [dg_pred (by omega)]; exact dg_1s (w - 1) (by omega)) ?_
  rw [nx_xor, nx_xor]
  refine dg_belW _ _ _ _ _ _ _ _ (by omega) (by omega) (dg_belW _ _ _ _ _ _ _ _ (by omega) (by omega) (dg_amW _ w h2 h6 _ _ _ _ y hy ?_))
  refine br_f (by decide) (br_f (by decide) (br_f (by decide) (br_f (by decide) (br_f (by decide) (br_f (by decide) (br_f (by decide) (br_f (by decide) (br_f (by decide) (br_f (by decide) (br_f (by decide) (br_t (by decide) (?_))))))))))))
  exact dg_tlW _ w h6 _ _ _ x _ hx (dg_yw y h2 h6) h
theorem dg_o10 (post : Int32 → Prop) (w : Nat) (h2 : 2 ≤ w) (h6 : w ≤ 6) (t a b : Int32) (x y : Nat) (hx : x < 2 ^ w) (hy : y < 2 ^ w) (h : post (nI (dg_val w 10 x y))) : wpX_outcome post (nI w, nI (2 ^ w - 1), t, a, b) (nI 10) (nI x) (nI y) := by
  have hp := dg_p6 w h6
  have hx2 := dg_xx h2 hx
  have hy2 := dg_xx h2 hy
  unfold wpX_outcome
  refine nm_r (e' := nI (2 ^ (w - 1))) (by rw [dg_pred (by omega)]; exact dg_1s (w - 1) (by omega)) ?_
  rw [nx_xor, nx_xor]
  refine dg_belW _ _ _ _ _ _ _ _ (by omega) (by omega) (dg_belW _ _ _ _ _ _ _ _ (by omega) (by omega) (dg_amW _ w h2 h6 _ _ _ _ y hy ?_))
  refine br_f (by decide) (br_f (by decide) (br_f (by decide) (br_f (by decide) (br_f (by decide) (br_f (by decide) (br_f (by decide) (br_f (by decide) (br_f (by decide) (br_f (by decide) (br_f (by decide) (br_f (by decide) (br_t (by decide) (?_)))))))))))))
  exact dg_cho _ _ x y (dg_lt1 _ _) (by omega) (by omega) h
theorem dg_o11 (post : Int32 → Prop) (w : Nat) (h2 : 2 ≤ w) (h6 : w ≤ 6) (t a b : Int32) (x y : Nat) (hx : x < 2 ^ w) (hy : y < 2 ^ w) (h : post (nI (dg_val w 11 x y))) : wpX_outcome post (nI w, nI (2 ^ w - 1), t, a, b) (nI 11) (nI x) (nI y) := by
  have hp := dg_p6 w h6
  have hx2 := dg_xx h2 hx
  have hy2 := dg_xx h2 hy
  unfold wpX_outcome
  refine nm_r (e' := nI (2 ^ (w - 1))) (by rw [dg_pred (by omega)]; exact dg_1s (w - 1) (by omega)) ?_
  rw [nx_xor, nx_xor]
  refine dg_belW _ _ _ _ _ _ _ _ (by omega) (by omega) (dg_belW _ _ _ _ _ _ _ _ (by omega) (by omega) (dg_amW _ w h2 h6 _ _ _ _ y hy ?_))
  refine br_f (by decide) (br_f (by decide) (br_f (by decide) (br_f (by decide) (br_f (by decide) (br_f (by decide) (br_f (by decide) (br_f (by decide) (br_f (by decide) (br_f (by decide) (br_f (by decide) (br_f (by decide) (br_f (by decide) (br_t (by decide) (?_))))))))))))))
  exact dg_cho _ _ y x (dg_lt1 _ _) (by omega) (by omega) h
theorem dg_o12 (post : Int32 → Prop) (w : Nat) (h2 : 2 ≤ w) (h6 : w ≤ 6) (t a b : Int32) (x y : Nat) (hx : x < 2 ^ w) (hy : y < 2 ^ w) (h : post (nI (dg_val w 12 x y))) : wpX_outcome post (nI w, nI (2 ^ w - 1), t, a, b) (nI 12) (nI x) (nI y) := by
  have hp := dg_p6 w h6
  have hx2 := dg_xx h2 hx
  have hy2 := dg_xx h2 hy
  unfold wpX_outcome
  refine nm_r (e' := nI (2 ^ (w - 1))) (by rw [dg_pred (by omega)]; exact dg_1s (w - 1) (by omega)) ?_
  rw [nx_xor, nx_xor]
  refine dg_belW _ _ _ _ _ _ _ _ (by omega) (by omega) (dg_belW _ _ _ _ _ _ _ _ (by omega) (by omega) (dg_amW _ w h2 h6 _ _ _ _ y hy ?_))
  refine br_f (by decide) (br_f (by decide) (br_f (by decide) (br_f (by decide) (br_f (by decide) (br_f (by decide) (br_f (by decide) (br_f (by decide) (br_f (by decide) (br_f (by decide) (br_f (by decide) (br_f (by decide) (br_f (by decide) (br_f (by decide) (br_t (by decide) (?_)))))))))))))))
  exact dg_onW _ w h6 _ _ _ x hx h
theorem dg_o13 (post : Int32 → Prop) (w : Nat) (h2 : 2 ≤ w) (h6 : w ≤ 6) (t a b : Int32) (x y : Nat) (hx : x < 2 ^ w) (hy : y < 2 ^ w) (h : post (nI (dg_val w 13 x y))) : wpX_outcome post (nI w, nI (2 ^ w - 1), t, a, b) (nI 13) (nI x) (nI y) := by
  have hp := dg_p6 w h6
  have hx2 := dg_xx h2 hx
  have hy2 := dg_xx h2 hy
  unfold wpX_outcome
  refine nm_r (e' := nI (2 ^ (w - 1))) (by rw [dg_pred (by omega)]; exact dg_1s (w - 1) (by omega)) ?_
  rw [nx_xor, nx_xor]
  refine dg_belW _ _ _ _ _ _ _ _ (by omega) (by omega) (dg_belW _ _ _ _ _ _ _ _ (by omega) (by omega) (dg_amW _ w h2 h6 _ _ _ _ y hy ?_))
  refine br_f (by decide) (br_f (by decide) (br_f (by decide) (br_f (by decide) (br_f (by decide) (br_f (by decide) (br_f (by decide) (br_f (by decide) (br_f (by decide) (br_f (by decide) (br_f (by decide) (br_f (by decide) (br_f (by decide) (br_f (by decide) (br_f (by decide) (br_t (by decide) (?_))))))))))))))))
  exact dg_zeW _ w h6 _ _ _ x hx h
theorem dg_o14 (post : Int32 → Prop) (w : Nat) (h2 : 2 ≤ w) (h6 : w ≤ 6) (t a b : Int32) (x y : Nat) (hx : x < 2 ^ w) (hy : y < 2 ^ w) (h : post (nI (dg_val w 14 x y))) : wpX_outcome post (nI w, nI (2 ^ w - 1), t, a, b) (nI 14) (nI x) (nI y) := by
  have hp := dg_p6 w h6
  have hx2 := dg_xx h2 hx
  have hy2 := dg_xx h2 hy
  unfold wpX_outcome
  refine nm_r (e' := nI (2 ^ (w - 1))) (by rw [dg_pred (by omega)]; exact dg_1s (w - 1) (by omega)) ?_
  rw [nx_xor, nx_xor]
  refine dg_belW _ _ _ _ _ _ _ _ (by omega) (by omega) (dg_belW _ _ _ _ _ _ _ _ (by omega) (by omega) (dg_amW _ w h2 h6 _ _ _ _ y hy ?_))
  refine br_f (by decide) (br_f (by decide) (br_f (by decide) (br_f (by decide) (br_f (by decide) (br_f (by decide) (br_f (by decide) (br_f (by decide) (br_f (by decide) (br_f (by decide) (br_f (by decide) (br_f (by decide) (br_f (by decide) (br_f (by decide) (br_f (by decide) (br_f (by decide) (br_t (by decide) (?_)))))))))))))))))
  exact dg_abW _ w h2 h6 _ _ _ x hx h
theorem dg_o15 (post : Int32 → Prop) (w : Nat) (h2 : 2 ≤ w) (h6 : w ≤ 6) (t a b : Int32) (x y : Nat) (hx : x < 2 ^ w) (hy : y < 2 ^ w) (h : post (nI (dg_val w 15 x y))) : wpX_outcome post (nI w, nI (2 ^ w - 1), t, a, b) (nI 15) (nI x) (nI y) := by
  have hp := dg_p6 w h6
  have hx2 := dg_xx h2 hx
  have hy2 := dg_xx h2 hy
  unfold wpX_outcome
  refine nm_r (e' := nI (2 ^ (w - 1))) (by rw [dg_pred (by omega)]; exact dg_1s (w - 1) (by omega)) ?_
  rw [nx_xor, nx_xor]
  refine dg_belW _ _ _ _ _ _ _ _ (by omega) (by omega) (dg_belW _ _ _ _ _ _ _ _ (by omega) (by omega) (dg_amW _ w h2 h6 _ _ _ _ y hy ?_))
  refine br_f (by decide) (br_f (by decide) (br_f (by decide) (br_f (by decide) (br_f (by decide) (br_f (by decide) (br_f (by decide) (br_f (by decide) (br_f (by decide) (br_f (by decide) (br_f (by decide) (br_f (by decide) (br_f (by decide) (br_f (by decide) (br_f (by decide) (br_f (by decide) (br_f (by decide) (br_t (by decide) (?_))))))))))))))))))
  exact dg_sumW _ _ _ _ _ _ x y 0 (by decide) (dg_at (P := post) ((pk_shrN (by omega) _ 1 (by decide)).trans (congrArg nI (by show _ = (x + y) / 2; omega))) h)
theorem dg_X (post : Int32 → Prop) (w : Nat) (h2 : 2 ≤ w) (h6 : w ≤ 6) (t a b : Int32) (op x y : Nat) (ho : op < 16) (hx : x < 2 ^ w) (hy : y < 2 ^ w) (h : post (nI (dg_val w op x y))) : wpX_outcome post (nI w, nI (2 ^ w - 1), t, a, b) (nI op) (nI x) (nI y) := by
  have hc : op = 0 ∨ op = 1 ∨ op = 2 ∨ op = 3 ∨ op = 4 ∨ op = 5 ∨ op = 6 ∨ op = 7 ∨ op = 8 ∨ op = 9 ∨ op = 10 ∨ op = 11 ∨ op = 12 ∨ op = 13 ∨ op = 14 ∨ op = 15 := by omega
  rcases hc with rfl | rfl | rfl | rfl | rfl | rfl | rfl | rfl | rfl | rfl | rfl | rfl | rfl | rfl | rfl | rfl
  · exact dg_o0 post w h2 h6 t a b x y hx hy h
  · exact dg_o1 post w h2 h6 t a b x y hx hy h
  · exact dg_o2 post w h2 h6 t a b x y hx hy h
  · exact dg_o3 post w h2 h6 t a b x y hx hy h
  · exact dg_o4 post w h2 h6 t a b x y hx hy h
  · exact dg_o5 post w h2 h6 t a b x y hx hy h
  · exact dg_o6 post w h2 h6 t a b x y hx hy h
  · exact dg_o7 post w h2 h6 t a b x y hx hy h
  · exact dg_o8 post w h2 h6 t a b x y hx hy h
  · exact dg_o9 post w h2 h6 t a b x y hx hy h
  · exact dg_o10 post w h2 h6 t a b x y hx hy h
  · exact dg_o11 post w h2 h6 t a b x y hx hy h
  · exact dg_o12 post w h2 h6 t a b x y hx hy h
  · exact dg_o13 post w h2 h6 t a b x y hx hy h
  · exact dg_o14 post w h2 h6 t a b x y hx hy h
  · exact dg_o15 post w h2 h6 t a b x y hx hy h
