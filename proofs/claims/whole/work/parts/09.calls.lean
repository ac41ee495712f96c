/-! a value is a number -/
theorem dg_valB {w x y : Nat} (op : Nat) (h2 : 2 ≤ w) (hx : x < 2 ^ w) (hy : y < 2 ^ w) : dg_val w op x y < 2 ^ w := by
  have h0 := Nat.two_pow_pos w
  have hp2 := dg_p2 w h2
  unfold dg_val
  split
  · exact Nat.mod_lt _ h0
  · exact Nat.mod_lt _ h0
  · exact Nat.mod_lt _ h0
  · exact Nat.div_lt_of_lt_mul (Nat.mul_lt_mul'' hx hy)
  · have := dg_lt1 x y; omega
  · have := dg_lt1 (x ^^^ 2 ^ (w - 1)) (y ^^^ 2 ^ (w - 1)); omega
  · exact Nat.mod_lt _ h0
  · exact Nat.lt_of_le_of_lt (Nat.div_le_self _ _) hx
  · exact Nat.mod_lt _ h0
  · exact Nat.mod_lt _ h0
  · split <;> assumption
  · split <;> assumption
  · exact Nat.mod_lt _ h0
  · exact Nat.mod_lt _ h0
  · unfold dg_ab
    split
    · exact Nat.mod_lt _ h0
    · exact hx
  · omega
/-! which ints are numbers, which are operations -/
theorem dg_nuT (post : Int32 → Prop) (w : Nat) (h6 : w ≤ 6) (t a b : Int32) (j : Nat) (hj : j < 2 ^ w) (h : post 1) : wpX_isNumber post (nI w, nI (2 ^ w - 1), t, a, b) (nI j) := by
  have hp := dg_p6 w h6
  exact br_f (nI_pos (by omega)) (br_f (nI_nlt (by omega) (by omega)) h)
theorem dg_nuF (post : Int32 → Prop) (w : Nat) (h6 : w ≤ 6) (t a b x : Int32) (hx : x < 0 ∨ nI (2 ^ w) ≤ x) (h : post 0) : wpX_isNumber post (nI w, nI (2 ^ w - 1), t, a, b) x := by
  have hp := dg_p6 w h6
  have h0 := Nat.two_pow_pos w
  by_cases z : x < 0
  · exact br_t z h
  · rcases hx with q | q
    · exact absurd q z
    · exact br_f z (br_t (Int32.lt_of_lt_of_le (nI_lt (a := 2 ^ w - 1) (b := 2 ^ w) (by omega) (by omega)) q) h)
theorem dg_nyT (post : Int32 → Prop) (w : Nat) (h6 : w ≤ 6) (f s : Int32) (j : Nat) (hj : j < 2 ^ w) (h : post 1) : wpY_isNumber post (nI w, f, s) (nI j) := by
  have hp := dg_p6 w h6
  exact br_f (nI_pos (by omega)) (dg_szW _ w h6 f s (br_f (nI_ge hj (by omega)) h))
theorem dg_nyF (post : Int32 → Prop) (w : Nat) (h6 : w ≤ 6) (f s x : Int32) (hx : x < 0 ∨ nI (2 ^ w) ≤ x) (h : post 0) : wpY_isNumber post (nI w, f, s) x := by
  by_cases z : x < 0
  · exact br_t z h
  · rcases hx with q | q
    · exact absurd q z
    · exact br_f z (dg_szW _ w h6 f s (br_t q h))
theorem dg_ioT (post : Int32 → Prop) (op : Nat) (ho : op < 16) (h : post 1) : wpX_isOperation post (nI op) := br_f (nI_pos (by omega)) (br_f (nI_ge (b := 16) ho (by decide)) h)
theorem dg_ioF (post : Int32 → Prop) (x : Int32) (hx : x < 0 ∨ nI 16 ≤ x) (h : post 0) : wpX_isOperation post x := by
  by_cases z : x < 0
  · exact br_t z h
  · rcases hx with q | q
    · exact absurd q z
    · exact br_f z (br_t q h)
theorem dg_iyT (post : Int32 → Prop) (w f s : Int32) (op : Nat) (ho : op < 16) (h : post 1) : wpY_isOp post (w, f, s) (nI op) := br_f (nI_pos (by omega)) (br_f (nI_nlt (b := op) (a := 15) (by omega) (by decide)) h)
theorem dg_iyF (post : Int32 → Prop) (w f s x : Int32) (hx : x < 0 ∨ nI 16 ≤ x) (h : post 0) : wpY_isOp post (w, f, s) x := by
  by_cases z : x < 0
  · exact br_t z h
  · rcases hx with q | q
    · exact absurd q z
    · exact br_f z (br_t (Int32.lt_of_lt_of_le (by decide) q) h)
theorem dg_or3 {a b c : Prop} (h : a ∨ b ∨ c) : (a ∨ b) ∨ c := by
  rcases h with h | h | h
  · exact Or.inl (Or.inl h)
  · exact Or.inl (Or.inr h)
  · exact Or.inr h
/-! operands -/
theorem dg_opXF (post : Int32 → SX → Prop) (w : Nat) (h6 : w ≤ 6) (t a b x y : Int32) (hF : (x < 0 ∨ nI (2 ^ w) ≤ x) ∨ ((∃ j, j < 2 ^ w ∧ x = nI j) ∧ (y < 0 ∨ nI (2 ^ w) ≤ y))) (h : post 0 (nI w, nI (2 ^ w - 1), t, a, b)) : wpX_operands post (nI w, nI (2 ^ w - 1), t, a, b) x y := by
  unfold wpX_operands
  rcases hF with q | ⟨⟨j, hj, rfl⟩, q⟩
  · exact dg_nuF _ w h6 t a b x q (br_t rfl h)
  · exact dg_nuT _ w h6 t a b j hj (br_f (by decide) (dg_nuF _ w h6 t a b y q (br_t rfl h)))
theorem dg_opYF (post : Int32 → SY → Prop) (w : Nat) (h6 : w ≤ 6) (f s x y : Int32) (hF : (x < 0 ∨ nI (2 ^ w) ≤ x) ∨ ((∃ j, j < 2 ^ w ∧ x = nI j) ∧ (y < 0 ∨ nI (2 ^ w) ≤ y))) (h : post 0 (nI w, f, s)) : wpY_operands post (nI w, f, s) x y := by
  unfold wpY_operands
  rcases hF with q | ⟨⟨j, hj, rfl⟩, q⟩
  · exact dg_nyF _ w h6 f s x q (br_t rfl h)
  · exact dg_nyT _ w h6 f s j hj (br_f (by decide) (dg_nyF _ w h6 f s y q (br_t rfl h)))
theorem dg_opXT (post : Int32 → SX → Prop) (w : Nat) (h6 : w ≤ 6) (t a b : Int32) (i j : Nat) (hi : i < 2 ^ w) (hj : j < 2 ^ w) (h : post 1 (nI w, nI (2 ^ w - 1), t, nI i, nI j)) : wpX_operands post (nI w, nI (2 ^ w - 1), t, a, b) (nI i) (nI j) := by
  unfold wpX_operands
  exact dg_nuT _ w h6 t a b i hi (br_f (by decide) (dg_nuT _ w h6 t a b j hj (br_f (by decide) h)))
theorem dg_opYT (post : Int32 → SY → Prop) (w : Nat) (h6 : w ≤ 6) (f s : Int32) (i j : Nat) (hi : i < 2 ^ w) (hj : j < 2 ^ w) (h : post 1 (nI w, nI i, nI j)) : wpY_operands post (nI w, f, s) (nI i) (nI j) := by
  unfold wpY_operands
  exact dg_nyT _ w h6 f s i hi (br_f (by decide) (dg_nyT _ w h6 f s j hj (br_f (by decide) h)))
/-! result of the reference -/
theorem dg_reF (post : Int32 → Prop) (w f s x : Int32) (hx : x < 0 ∨ nI 16 ≤ x) (h : post (-1)) : wpY_result post (w, f, s) x := by
  unfold wpY_result
  exact dg_iyF _ w f s x hx (br_t rfl h)
theorem dg_reT (post : Int32 → Prop) (w : Nat) (h2 : 2 ≤ w) (h6 : w ≤ 6) (op x y : Nat) (ho : op < 16) (hx : x < 2 ^ w) (hy : y < 2 ^ w) (h : post (nI (dg_val w op x y))) : wpY_result post (nI w, nI x, nI y) (nI op) := by
  unfold wpY_result
  exact dg_iyT _ _ _ _ op ho (br_f (by decide) (dg_Y _ w h2 h6 _ _ op x y ho hx hy h))
/-! the counts of alike -/
def dg_ct (w op y v : Nat) : Nat → Nat → Nat → Nat
  | 0, _, c => c
  | d + 1, i, c => dg_ct w op y v d (i + 1) (if dg_val w op i y = v then c + 1 else c)
theorem dg_alX (post : Int32 → Prop) (w : Nat) (h2 : 2 ≤ w) (h6 : w ≤ 6) (t a : Int32) (op y v : Nat) (ho : op < 16) (hy : y < 2 ^ w) (hv : v < 2 ^ w) : ∀ d i c, i + d = 2 ^ w → post (nI (dg_ct w op y v d i c)) → wX_alike_28 post (nI op) (nI v) (nI w) (nI (2 ^ w - 1)) t a (nI y) (d + 1) (nI c) (nI i) := by
  have hp := dg_p6 w h6
  have h0 := Nat.two_pow_pos w
  intro d
  induction d with
  | zero =>
    intro i c hi h
    exact br_t (nI_lt (by omega) (by omega)) h
  | succ d ih =>
    intro i c hi h
    have h' : post (nI (dg_ct w op y v d (i + 1) (if dg_val w op i y = v then c + 1 else c))) := h
    have hb := dg_valB op h2 (show i < 2 ^ w by omega) hy
    refine br_f (nI_nlt (by omega) (by omega)) (dg_X _ w h2 h6 t _ _ op i y ho (by omega) hy ?_)
    refine pk_eq (dg_val w op i y) v (fun e => ?_) (fun e => ?_)
    · rw [if_pos e] at h'
      exact nm_r (nI_1 c) (nm_r (nI_1 i) (ih (i + 1) (c + 1) (by omega) h'))
    · rw [if_neg e] at h'
      exact nm_r (nI_1 i) (ih (i + 1) c (by omega) h')
theorem dg_alY (post : Int32 → Prop) (w : Nat) (h2 : 2 ≤ w) (h6 : w ≤ 6) (op x y : Nat) (ho : op < 16) (hx : x < 2 ^ w) (hy : y < 2 ^ w) : ∀ d i c, i + d = 2 ^ w → post (nI (dg_ct w op y (dg_val w op x y) d i c)) → wY_alike_14 post (nI op) (nI w) (nI x) (nI y) (d + 1) (nI c) (nI i) := by
  have hp := dg_p6 w h6
  have hv := dg_valB op h2 hx hy
  intro d
  induction d with
  | zero =>
    intro i c hi h
    rw [wY_alike_14]
    exact dg_szW _ w h6 _ _ (br_t (nI_le (a := 2 ^ w) (b := i) (by omega) (by omega)) h)
  | succ d ih =>
    intro i c hi h
    have h' : post (nI (dg_ct w op y (dg_val w op x y) d (i + 1) (if dg_val w op i y = dg_val w op x y then c + 1 else c))) := h
    have hb := dg_valB op h2 (show i < 2 ^ w by omega) hy
    rw [wY_alike_14]
    refine dg_szW _ w h6 _ _ (br_f (nI_ge (a := i) (b := 2 ^ w) (by omega) (by omega)) (dg_Y _ w h2 h6 _ _ op i y ho (by omega) hy (dg_Y _ w h2 h6 _ _ op x y ho hx hy ?_)))
    refine pk_eq (dg_val w op i y) (dg_val w op x y) (fun e => ?_) (fun e => ?_)
    · rw [if_pos e] at h'
      exact nm_r (nI_1 c) (nm_r (nI_1 i) (ih (i + 1) (c + 1) (by omega) h'))
    · rw [if_neg e] at h'
      exact nm_r (nI_1 i) (ih (i + 1) c (by omega) h')
/-! a bit of a number -/
theorem dg_btY {v i : Nat} (hv : v < 64) (hi : i < 6) : nI v / ((1 : Int32) <<< (nI i &&& 31)) - nI v / ((1 : Int32) <<< (nI i &&& 31)) / 2 * 2 = nI (v / 2 ^ i % 2) := by
  have hi6 := dg_p6 i (by omega)
  have hd : v / 2 ^ i ≤ v := Nat.div_le_self _ _
  rw [dg_1s i (by omega), pk_div (by omega) (Nat.two_pow_pos i) (by omega)]
  exact pk_rem (d := 2) (by omega) (by decide) (by decide)
theorem dg_bt0 {i : Nat} (hi : i < 6) : ¬ ((1 : Int32) <<< (nI i &&& 31)) = 0 := by
  have hi6 := dg_p6 i (by omega)
  rw [dg_1s i (by omega)]
  exact nI_ne0 (Nat.two_pow_pos i) (by omega)
/-! the constructor -/
theorem dg_i26 (post : SX → Prop) (k1 : Int32) (w : Nat) (h6 : w ≤ 6) (h : ∀ t : Int32, post (nI w, nI (2 ^ w - 1), t, 0, 0)) : wX_init_26 post k1 (nI w) 0 0 0 0 0 :=
  nm_r (e' := nI (2 ^ w - 1)) (by rw [dg_1s w (by omega)]; exact dg_pred (Nat.two_pow_pos w)) (br_c (fun _ => ⟨by decide, by decide, h 0⟩) (fun _ => ⟨by decide, by decide, h 1⟩))
