/-! words of nI: or, masks, shifts, complement -/
theorem dg_at {P : Int32 → Prop} {x y : Int32} (e : x = y) (h : P y) : P x := by rw [e]; exact h
theorem dg_or (a b : Nat) : nI a ||| nI b = nI (a ||| b) := by
  apply Int32.toBitVec_inj.1
  show BitVec.ofNat 32 a ||| BitVec.ofNat 32 b = BitVec.ofNat 32 (a ||| b)
  apply BitVec.eq_of_getLsbD_eq
  intro i hi
  simp [hi]
theorem dg_msk (a w : Nat) : nI a &&& nI (2 ^ w - 1) = nI (a % 2 ^ w) := by rw [nx_and, Nat.and_two_pow_sub_one_eq_mod]
theorem dg_a1 (a : Nat) : nI a &&& 1 = nI (a % 2) := dg_msk a 1
theorem dg_shl {a i : Nat} (hi : i < 32) (h : a * 2 ^ i < 2 ^ 32) : nI a <<< (nI i &&& 31) = nI (a * 2 ^ i) := pk_shlN _ i (s_l i hi) h
theorem dg_shr {a i : Nat} (hi : i < 32) (h : a < 2 ^ 31) : nI a >>> (nI i &&& 31) = nI (a / 2 ^ i) := pk_shrN h _ i (s_l i hi)
theorem dg_1s : ∀ i, i < 31 → (1 : Int32) <<< (nI i &&& 31) = nI (2 ^ i) := by decide +kernel
theorem dg_neg {y : Nat} (h : y < 2 ^ 32) : nI y ^^^ (-1) = nI (4294967295 - y) := by
  apply Int32.toBitVec_inj.mp
  rw [Int32.toBitVec_xor, show (-1 : Int32).toBitVec = BitVec.allOnes 32 by decide, BitVec.xor_allOnes]
  apply BitVec.eq_of_toNat_eq
  rw [BitVec.toNat_not, pk_tn h, pk_tn (by omega)]
theorem dg_not {y : Nat} (h : y < 65536) : (nI y ^^^ (-1)) &&& 65535 = nI (65535 - y) := by
  rw [dg_neg (by omega), nx_mod]
  exact congrArg nI (by omega)
theorem dg_pred {w : Nat} (h : 1 ≤ w) : nI w - 1 = nI (w - 1) := by
  obtain ⟨k, rfl⟩ : ∃ k, w = k + 1 := ⟨w - 1, by omega⟩
  exact nI_pred k
theorem dg_bit {x i : Nat} (hi : i < 32) (h : x < 2 ^ 31) : (nI x >>> (nI i &&& 31)) &&& 1 = nI (x / 2 ^ i % 2) := by
  rw [dg_shr hi h, dg_a1]
/-! powers up to 2^6 -/
theorem dg_p6 : ∀ i, i ≤ 6 → 2 ^ i ≤ 64 := by decide
theorem dg_p2 : ∀ w, 2 ≤ w → 4 ≤ 2 ^ w := fun w h => Nat.pow_le_pow_right (n := 2) (i := 2) (by decide) h
theorem dg_pp : ∀ w, 1 ≤ w → 2 ^ w = 2 * 2 ^ (w - 1) := by
  intro w h
  obtain ⟨k, rfl⟩ : ∃ k, w = k + 1 := ⟨w - 1, by omega⟩
  rw [Nat.add_sub_cancel, Nat.pow_succ, Nat.mul_comm]
/-! the walks of the adder -/
theorem dg_runL (post : Int32 → Prop) (g p c : Int32) (h : post (dg_run g p c 16)) : ∀ d i, i + d = 16 → wX_runningCarries_5 post g p (d + 1) (dg_run g p c i) (nI i) := by
  intro d
  induction d with
  | zero =>
    intro i hi
    obtain rfl : i = 16 := by omega
    exact br_t (by decide) h
  | succ d ih =>
    intro i hi
    exact br_f (nI_ge (b := 16) (by omega) (by decide)) (nm_e (nm_e (nm_r (nI_1 i) (ih (i + 1) (by omega)))))
theorem dg_runW (post : Int32 → Prop) (g p c : Int32) (h : post (dg_run g p c 16)) : wpX_runningCarries post g p c := ⟨17, dg_runL post g p c h 16 0 rfl⟩
theorem dg_treeW (post : Int32 → Prop) (g p c : Int32) (h : post (dg_tree g p c)) : wpX_treeCarries post g p c :=
  nm_e ⟨5, br_f (by decide) (nm_r (e' := nI 1) (by decide +kernel) (nm_e (nm_e (nm_r (e' := nI 1) (by decide +kernel)
    (br_f (by decide) (nm_r (e' := nI 2) (by decide +kernel) (nm_e (nm_e (nm_r (e' := nI 2) (by decide +kernel)
    (br_f (by decide) (nm_r (e' := nI 4) (by decide +kernel) (nm_e (nm_e (nm_r (e' := nI 3) (by decide +kernel)
    (br_f (by decide) (nm_r (e' := nI 8) (by decide +kernel) (nm_e (nm_e (nm_r (e' := nI 4) (by decide +kernel)
    (br_t (by decide) h))))))))))))))))))))⟩
theorem dg_sumW (post : Int32 → Prop) (w m t a b : Int32) (x y c : Nat) (hc : c ≤ 1) (h : post (nI ((x + y + c) % 65536))) : wpX_sum post (w, m, t, a, b) (nI x) (nI y) (nI c) := by
  unfold wpX_sum
  refine nm_e (nm_e (br_c (fun _ => ?_) (fun _ => ?_)))
  · exact dg_runW _ _ _ _ (dg_at (P := post) (dg_sumR x y c hc) h)
  · exact dg_treeW _ _ _ _ (dg_at (P := post) (dg_sumT x y c hc) h)
theorem dg_difW (post : Int32 → Prop) (w m t a b : Int32) (x y : Nat) (hy : y < 65536) (h : post (nI ((x + (65536 - y)) % 65536))) : wpX_difference post (w, m, t, a, b) (nI x) (nI y) := by
  unfold wpX_difference
  dsimp only
  rw [dg_not hy]
  refine dg_sumW _ _ _ _ _ _ x (65535 - y) 1 (by decide) ?_
  rw [show x + (65535 - y) + 1 = x + (65536 - y) by omega]
  exact h
/-- 1 if x is below y, else 0 -/
def dg_lt (x y : Nat) : Nat := if x < y then 1 else 0
theorem dg_belW (post : Int32 → Prop) (w m t a b : Int32) (x y : Nat) (hx : x < 32768) (hy : y < 32768) (h : post (nI (dg_lt x y))) : wpX_below post (w, m, t, a, b) (nI x) (nI y) := by
  unfold wpX_below
  dsimp only
  refine dg_difW _ _ _ _ _ _ x y (by omega) (dg_at (P := post) ((pk_shrN (by omega) _ 15 (by decide)).trans (congrArg nI ?_)) h)
  unfold dg_lt
  split <;> omega
/-! one wire spread, a choice -/
theorem dg_sp0 (post : Int32 → Prop) (h : post 0) : wpX_spread post (nI 0) :=
  ⟨5, br_f (by decide) (nm_r (e' := nI 0) (by decide +kernel) (nm_r (e' := nI 1) (by decide +kernel)
    (br_f (by decide) (nm_r (e' := nI 0) (by decide +kernel) (nm_r (e' := nI 2) (by decide +kernel)
    (br_f (by decide) (nm_r (e' := nI 0) (by decide +kernel) (nm_r (e' := nI 3) (by decide +kernel)
    (br_f (by decide) (nm_r (e' := nI 0) (by decide +kernel) (nm_r (e' := nI 4) (by decide +kernel)
    (br_t (by decide) h))))))))))))⟩
theorem dg_sp1 (post : Int32 → Prop) (h : post 65535) : wpX_spread post (nI 1) :=
  ⟨5, br_f (by decide) (nm_r (e' := nI 3) (by decide +kernel) (nm_r (e' := nI 1) (by decide +kernel)
    (br_f (by decide) (nm_r (e' := nI 15) (by decide +kernel) (nm_r (e' := nI 2) (by decide +kernel)
    (br_f (by decide) (nm_r (e' := nI 255) (by decide +kernel) (nm_r (e' := nI 3) (by decide +kernel)
    (br_f (by decide) (nm_r (e' := nI 65535) (by decide +kernel) (nm_r (e' := nI 4) (by decide +kernel)
    (br_t (by decide) h))))))))))))⟩
theorem dg_ch0 (p : Int32) (q : Nat) (hq : q < 65536) : (p &&& 0) ||| ((nI q &&& ((0 : Int32) ^^^ (-1))) &&& 65535) = nI q := by
  rw [show (0 : Int32) ^^^ (-1) = -1 by decide, Int32.and_zero, Int32.zero_or, Int32.and_neg_one]
  exact nx_m16 hq
theorem dg_ch1 (q : Int32) (p : Nat) (hp : p < 65536) : (nI p &&& 65535) ||| ((q &&& ((65535 : Int32) ^^^ (-1))) &&& 65535) = nI p := by
  rw [Int32.and_assoc, show ((65535 : Int32) ^^^ (-1)) &&& 65535 = 0 by decide, Int32.and_zero, Int32.or_zero]
  exact nx_m16 hp
theorem dg_cho (post : Int32 → Prop) (s p q : Nat) (hs : s ≤ 1) (hp : p < 65536) (hq : q < 65536) (h : post (nI (if s = 1 then p else q))) : wpX_choose post (nI s) (nI p) (nI q) := by
  unfold wpX_choose
  have h2 : s = 0 ∨ s = 1 := by omega
  rcases h2 with rfl | rfl
  · exact dg_sp0 _ (dg_at (P := post) (dg_ch0 (nI p) q hq) h)
  · exact dg_sp1 _ (dg_at (P := post) (dg_ch1 (nI q) p hp) h)
