section
/-! rows of the kit, pasted: BITS and PURE-ROWS -/
def bt (x : Int32) (i : Nat) : Bool := x.toBitVec.getLsbD i
theorem b_ext {x y : Int32} (h : ∀ i, i < 32 → bt x i = bt y i) : x = y := Int32.toBitVec_inj.mp (BitVec.eq_of_getLsbD_eq (fun i hi => h i hi))
theorem b_or (x y : Int32) (i : Nat) : bt (x ||| y) i = (bt x i || bt y i) := by unfold bt; rw [Int32.toBitVec_or, BitVec.getLsbD_or]
theorem b_and (x y : Int32) (i : Nat) : bt (x &&& y) i = (bt x i && bt y i) := by unfold bt; rw [Int32.toBitVec_and, BitVec.getLsbD_and]
theorem b_xor (x y : Int32) (i : Nat) : bt (x ^^^ y) i = (bt x i ^^ bt y i) := by unfold bt; rw [Int32.toBitVec_xor, BitVec.getLsbD_xor]
theorem b_big {x : Int32} {i : Nat} (h : 32 ≤ i) : bt x i = false := BitVec.getLsbD_of_ge _ _ h
theorem b_65535 (i : Nat) : bt 65535 i = decide (i < 16) := by
  rcases Nat.lt_or_ge i 32 with h | h
  · exact (by decide +kernel : ∀ i, i < 32 → bt 65535 i = decide (i < 16)) i h
  · rw [b_big h, decide_eq_false (by omega)]
theorem b_m1 : ∀ i, i < 32 → bt (-1) i = true := by decide +kernel
theorem b_0 (i : Nat) : bt 0 i = false := BitVec.getLsbD_zero
theorem s_l : ∀ n, n < 32 → ((nI n &&& 31).toBitVec.smod 32).toNat = n := by decide +kernel
theorem b_shl (n : Nat) (hn : n < 32) (x : Int32) {i : Nat} (hi : i < 32) : bt (x <<< (nI n &&& 31)) i = (decide (n ≤ i) && bt x (i - n)) := by
  unfold bt
  rw [Int32.toBitVec_shiftLeft]
  show (x.toBitVec <<< ((nI n &&& 31).toBitVec.smod 32).toNat).getLsbD i = _
  rw [s_l n hn, BitVec.getLsbD_shiftLeft]
  rcases Nat.lt_or_ge i n with h | h
  · simp [h, Nat.not_le.mpr h]
  · simp [hi, h, Nat.not_lt.mpr h]
theorem b_sshr (n : Nat) (hn : n < 32) (x : Int32) {i : Nat} (hi : i < 32) : bt (x >>> (nI n &&& 31)) i = if n + i < 32 then bt x (n + i) else bt x 31 := by
  unfold bt
  rw [Int32.toBitVec_shiftRight]
  show (x.toBitVec.sshiftRight ((nI n &&& 31).toBitVec.smod 32).toNat).getLsbD i = _
  rw [s_l n hn, BitVec.getLsbD_sshiftRight, BitVec.msb_eq_getLsbD_last]
  simp [hi]
theorem nx_and (a b : Nat) : nI a &&& nI b = nI (a &&& b) := by
  apply Int32.toBitVec_inj.1
  show BitVec.ofNat 32 a &&& BitVec.ofNat 32 b = BitVec.ofNat 32 (a &&& b)
  apply BitVec.eq_of_getLsbD_eq
  intro i hi
  simp [hi]
theorem nx_xor (a b : Nat) : nI a ^^^ nI b = nI (a ^^^ b) := by
  apply Int32.toBitVec_inj.1
  show BitVec.ofNat 32 a ^^^ BitVec.ofNat 32 b = BitVec.ofNat 32 (a ^^^ b)
  apply BitVec.eq_of_getLsbD_eq
  intro i hi
  simp [hi]
theorem nx_mod (k : Nat) : nI k &&& 65535 = nI (k % 65536) := by
  show nI k &&& nI 65535 = _
  rw [nx_and, show (65535 : Nat) = 2 ^ 16 - 1 from rfl, Nat.and_two_pow_sub_one_eq_mod]
theorem nx_m16 {k : Nat} (h : k < 65536) : nI k &&& 65535 = nI k := by rw [nx_mod, Nat.mod_eq_of_lt h]
theorem pk_sub {a b : Nat} (h : b ≤ a) : nI a - nI b = nI (a - b) := by
  obtain ⟨c, rfl⟩ : ∃ c, a = c + b := ⟨a - b, by omega⟩
  rw [← nI_add, Int32.add_sub_cancel, Nat.add_sub_cancel]
theorem pk_m1 (n : Nat) : nI (n + 1) + (-1) = nI n := by
  rw [← nI_1, Int32.add_assoc, show (1 : Int32) + (-1) = 0 from rfl, Int32.add_zero]
theorem pk_mul (a b : Nat) : nI a * nI b = nI (a * b) := (Int32.ofNat_mul a b).symm
theorem pk_div {a d : Nat} (ha : a < 2 ^ 31) (h0 : 0 < d) (hd : d < 2 ^ 31) : nI a / nI d = nI (a / d) := by
  apply Int32.toInt_inj.mp
  rw [lg_idiv_nonneg (by rw [nI_toInt ha]; omega) (by rw [nI_toInt hd]; omega), nI_toInt ha, nI_toInt hd, nI_toInt (Nat.lt_of_le_of_lt (Nat.div_le_self a d) ha)]
  first | rfl | exact (Int.natCast_ediv _ _).symm
theorem pk_rem {a d : Nat} (ha : a < 2 ^ 31) (h0 : 0 < d) (hd : d < 2 ^ 31) : nI a - nI a / nI d * nI d = nI (a % d) := by
  rw [pk_div ha h0 hd, pk_mul, pk_sub (Nat.div_mul_le_self a d)]
  exact congrArg nI (by have := Nat.div_add_mod' a d; omega)
theorem pk_sub_toInt {a b : Nat} (ha : a < 2 ^ 30) (hb : b < 2 ^ 30) : (nI a - nI b).toInt = (a : Int) - b := by
  rw [Int32.toInt_sub, nI_toInt (by omega), nI_toInt (by omega)]
  exact Int.bmod_eq_of_le (by omega) (by omega)
theorem pk_sneg {a b : Nat} (hb : b < 2 ^ 30) (h : a < b) : nI a - nI b < 0 := by
  rw [Int32.lt_iff_toInt_lt, pk_sub_toInt (by omega) hb, show (0 : Int32).toInt = 0 from by decide]
  omega
theorem pk_ix (x : Int32) {n : Nat} (hn : n < 2 ^ 31) : x < 0 ∨ nI n ≤ x ∨ ∃ j : Nat, j < n ∧ x = nI j := by
  by_cases h : x < 0
  · exact Or.inl h
  · obtain ⟨j, hj, rfl⟩ := nI_of h
    by_cases h2 : j < n
    · exact Or.inr (Or.inr ⟨j, h2, rfl⟩)
    · exact Or.inr (Or.inl (nI_le (by omega) hj))
theorem pk_le {x y : Int32} {A B : Prop} (a b : Nat) (f : a ≤ b → A) (g : b < a → B) (hx : x = nI a := by rfl) (hy : y = nI b := by rfl) (ha : a < 2 ^ 31 := by omega) (hb : b < 2 ^ 31 := by omega) : (x ≤ y → A) ∧ (¬ x ≤ y → B) := by
  subst hx hy
  rw [nI_leI ha hb]
  exact ⟨f, fun z => g (by omega)⟩
theorem pk_lt {x y : Int32} {A B : Prop} (a b : Nat) (f : a < b → A) (g : b ≤ a → B) (hx : x = nI a := by rfl) (hy : y = nI b := by rfl) (ha : a < 2 ^ 31 := by omega) (hb : b < 2 ^ 31 := by omega) : (x < y → A) ∧ (¬ x < y → B) := by
  subst hx hy
  rw [nI_ltI ha hb]
  exact ⟨f, fun z => g (by omega)⟩
theorem pk_eq {x y : Int32} {A B : Prop} (a b : Nat) (f : a = b → A) (g : a ≠ b → B) (hx : x = nI a := by rfl) (hy : y = nI b := by rfl) (ha : a < 2 ^ 31 := by omega) (hb : b < 2 ^ 31 := by omega) : (x = y → A) ∧ (¬ x = y → B) := by
  subst hx hy
  rw [nI_eq ha hb]
  exact ⟨f, g⟩
theorem pk_tn {n : Nat} (h : n < 2 ^ 32) : (nI n).toBitVec.toNat = n := Nat.mod_eq_of_lt h
theorem pk_shl (a s : Int32) (k : Nat) (hs : (s.toBitVec.smod 32).toNat = k) : (a <<< s).toBitVec.toNat = a.toBitVec.toNat * 2 ^ k % 2 ^ 32 := by
  show (a.toBitVec <<< (s.toBitVec.smod 32).toNat).toNat = _
  rw [hs, BitVec.toNat_shiftLeft, Nat.shiftLeft_eq]
theorem pk_shlN {n : Nat} (s : Int32) (k : Nat) (hs : (s.toBitVec.smod 32).toNat = k) (h : n * 2 ^ k < 2 ^ 32) : nI n <<< s = nI (n * 2 ^ k) := by
  apply Int32.toBitVec_inj.mp
  apply BitVec.eq_of_toNat_eq
  have hn : n < 2 ^ 32 := Nat.lt_of_le_of_lt (Nat.le_mul_of_pos_right n (Nat.two_pow_pos k)) h
  rw [pk_shl _ _ k hs, pk_tn hn, pk_tn h, Nat.mod_eq_of_lt h]
theorem pk_shr (a s : Int32) (k : Nat) (hs : (s.toBitVec.smod 32).toNat = k) : (a >>> s).toInt = a.toInt >>> k := by
  show (a.toBitVec.sshiftRight (s.toBitVec.smod 32).toNat).toInt = _
  rw [hs, BitVec.toInt_sshiftRight]
  rfl
theorem pk_shrN {n : Nat} (h : n < 2 ^ 31) (s : Int32) (k : Nat) (hs : (s.toBitVec.smod 32).toNat = k) : nI n >>> s = nI (n / 2 ^ k) := by
  apply Int32.toInt_inj.mp
  have h2 : n / 2 ^ k ≤ n := Nat.div_le_self _ _
  rw [pk_shr _ _ k hs, nI_toInt h, nI_toInt (by omega), Int.shiftRight_eq_div_pow]
  rfl
end
section
/-! the adder by bits -/
theorem dg_b1 (i : Nat) : bt 1 i = decide (i = 0) := by
  rcases Nat.lt_or_ge i 32 with h | h
  · exact (by decide +kernel : ∀ i, i < 32 → bt 1 i = decide (i = 0)) i h
  · rw [b_big h, decide_eq_false (by omega)]
def dg_c (c : Bool) : Int32 := if c then 1 else 0
theorem dg_cb (c : Bool) (i : Nat) : bt (dg_c c) i = (decide (i = 0) && c) := by
  cases c
  · show bt 0 i = _
    rw [b_0, Bool.and_false]
  · show bt 1 i = _
    rw [dg_b1, Bool.and_true]
/-- the carry into wire i -/
def dg_cy (x y : Int32) (c : Bool) (i : Nat) : Bool := BitVec.carry i x.toBitVec y.toBitVec c
theorem dg_cy0 (x y : Int32) (c : Bool) : dg_cy x y c 0 = c := BitVec.carry_zero
theorem dg_cyS (x y : Int32) (c : Bool) (i : Nat) : dg_cy x y c (i + 1) = ((bt x i && bt y i) || ((bt x i ^^ bt y i) && dg_cy x y c i)) := by
  unfold dg_cy bt
  rw [BitVec.carry_succ]
  cases x.toBitVec.getLsbD i <;> cases y.toBitVec.getLsbD i <;> simp
theorem dg_add (x y : Int32) (c : Bool) {j : Nat} (hj : j < 32) : bt (x + y + dg_c c) j = (bt x j ^^ (bt y j ^^ dg_cy x y c j)) := by
  have e : (dg_c c).toBitVec = BitVec.setWidth 32 (BitVec.ofBool c) := by cases c <;> decide
  unfold bt dg_cy
  rw [Int32.toBitVec_add, Int32.toBitVec_add, e, BitVec.getLsbD_add_add_bool hj]
/-- carries that are right on sixteen wires make a right sum -/
theorem dg_sum (x y K : Int32) (c : Bool) (h : ∀ j, j < 16 → bt K j = dg_cy x y c j) : ((x ^^^ y) ^^^ K) &&& 65535 = (x + y + dg_c c) &&& 65535 := by
  apply b_ext
  intro j hj
  rw [b_and, b_and, b_65535, b_xor, b_xor]
  rcases Nat.lt_or_ge j 16 with h16 | h16
  · rw [dg_add x y c hj, h j h16, Bool.xor_assoc]
  · rw [decide_eq_false (by omega), Bool.and_false, Bool.and_false]
/-! carries that run from wire to wire -/
def dg_rs (g p k : Int32) (i : Nat) : Int32 := k ||| (((g ||| (p &&& k)) &&& ((1 : Int32) <<< (nI i &&& 31))) <<< ((1 : Int32) &&& 31))
def dg_run (g p c : Int32) : Nat → Int32
  | 0 => c
  | i + 1 => dg_rs g p (dg_run g p c i) i
theorem dg_one {i j : Nat} (hi : i < 32) (hj : j < 32) : bt ((1 : Int32) <<< (nI i &&& 31)) j = decide (j = i) := by
  rw [b_shl i hi 1 hj, dg_b1]
  by_cases h : j = i
  · subst h; simp
  · by_cases h2 : i ≤ j
    · simp [h, h2]; omega
    · simp [h, h2]
theorem dg_run_b (x y : Int32) (c : Bool) : ∀ i, i ≤ 16 → ∀ j, j < 32 → bt (dg_run (x &&& y) (x ^^^ y) (dg_c c) i) j = (decide (j ≤ i) && dg_cy x y c j) := by
  intro i
  induction i with
  | zero =>
    intro _ j hj
    show bt (dg_c c) j = _
    rw [dg_cb]
    cases j with
    | zero => simp [dg_cy0]
    | succ j => simp
  | succ i ih =>
    intro hi j hj
    show bt (dg_rs (x &&& y) (x ^^^ y) (dg_run (x &&& y) (x ^^^ y) (dg_c c) i) i) j = _
    unfold dg_rs
    rw [b_or, ih (by omega) j hj]
    have hs := b_shl 1 (by omega) (((x &&& y) ||| ((x ^^^ y) &&& dg_run (x &&& y) (x ^^^ y) (dg_c c) i)) &&& ((1 : Int32) <<< (nI i &&& 31))) hj
    refine (congrArg (fun z => ((decide (j ≤ i) && dg_cy x y c j) || z)) hs).trans ?_
    cases j with
    | zero => simp
    | succ j =>
      show ((decide (j + 1 ≤ i) && dg_cy x y c (j + 1)) || (decide (1 ≤ j + 1) && bt (((x &&& y) ||| ((x ^^^ y) &&& dg_run (x &&& y) (x ^^^ y) (dg_c c) i)) &&& ((1 : Int32) <<< (nI i &&& 31))) j)) = _
      rw [b_and, b_or, b_and, b_and, b_xor, ih (by omega) j (by omega), dg_one (by omega) (by omega), dg_cyS]
      by_cases h : j = i
      · subst h
        simp
      · by_cases h2 : j + 1 ≤ i
        · have h3 : j ≤ i := by omega
          simp [h, h2, h3]
        · have h3 : ¬ j ≤ i := by omega
          simp [h, h2, h3]
/-! carries worked out in a tree: what s wires that end at wire i make, and whether they pass -/
def dg_G (g p : Nat → Bool) : Nat → Nat → Bool
  | 0, _ => false
  | _ + 1, 0 => g 0
  | s + 1, i + 1 => g (i + 1) || (p (i + 1) && dg_G g p s i)
def dg_P (p : Nat → Bool) : Nat → Nat → Bool
  | 0, _ => true
  | s + 1, 0 => p 0 && decide (s = 0)
  | s + 1, i + 1 => p (i + 1) && dg_P p s i
theorem dg_Gadd (g p : Nat → Bool) (t : Nat) : ∀ s i, dg_G g p (s + t) i = (dg_G g p s i || (dg_P p s i && (decide (s ≤ i) && dg_G g p t (i - s)))) := by
  intro s
  induction s with
  | zero => intro i; simp [dg_G, dg_P]
  | succ s ih =>
    intro i
    rw [show s + 1 + t = (s + t) + 1 by omega]
    cases i with
    | zero => simp [dg_G]
    | succ i =>
      simp only [dg_G, dg_P, ih]
      rw [show i + 1 - (s + 1) = i - s by omega, show decide (s + 1 ≤ i + 1) = decide (s ≤ i) by simp]
      cases g (i + 1) <;> cases p (i + 1) <;> simp
theorem dg_Padd (p : Nat → Bool) {t : Nat} (ht : 0 < t) : ∀ s i, dg_P p (s + t) i = (dg_P p s i && (decide (s ≤ i) && dg_P p t (i - s))) := by
  intro s
  induction s with
  | zero => intro i; simp [dg_P]
  | succ s ih =>
    intro i
    rw [show s + 1 + t = (s + t) + 1 by omega]
    cases i with
    | zero =>
      have h : ¬ s + t = 0 := by omega
      simp [dg_P]
      omega
    | succ i =>
      simp only [dg_P, ih]
      rw [show i + 1 - (s + 1) = i - s by omega, show decide (s + 1 ≤ i + 1) = decide (s ≤ i) by simp]
      cases p (i + 1) <;> simp
def dg_g (x y : Int32) (c : Bool) (i : Nat) : Bool := (bt x i && bt y i) || ((bt x i ^^ bt y i) && (decide (i = 0) && c))
def dg_p (x y : Int32) (i : Nat) : Bool := bt x i ^^ bt y i
theorem dg_Gcy (x y : Int32) (c : Bool) : ∀ i s, i < s → dg_G (dg_g x y c) (dg_p x y) s i = dg_cy x y c (i + 1) := by
  intro i
  induction i with
  | zero =>
    intro s hs
    cases s with
    | zero => omega
    | succ s =>
      rw [dg_cyS, dg_cy0]
      simp [dg_G, dg_g]
  | succ i ih =>
    intro s hs
    cases s with
    | zero => omega
    | succ s =>
      rw [dg_cyS]
      simp only [dg_G]
      rw [ih s (by omega)]
      simp [dg_g, dg_p]
def dg_tm (m q : Int32) (r : Nat) : Int32 := m ||| (q &&& (m <<< (nI r &&& 31)))
def dg_tq (q : Int32) (r : Nat) : Int32 := q &&& (q <<< (nI r &&& 31))
theorem dg_tm_b {g p : Nat → Bool} {m q : Int32} {r : Nat} (hr : r < 32) (hm : ∀ j, j < 32 → bt m j = dg_G g p r j) (hq : ∀ j, j < 32 → bt q j = dg_P p r j) : ∀ j, j < 32 → bt (dg_tm m q r) j = dg_G g p (r + r) j := by
  intro j hj
  unfold dg_tm
  rw [b_or, b_and, b_shl r hr m hj, hm j hj, hq j hj, hm (j - r) (by omega), dg_Gadd g p r r j]
theorem dg_tq_b {p : Nat → Bool} {q : Int32} {r : Nat} (h0 : 0 < r) (hr : r < 32) (hq : ∀ j, j < 32 → bt q j = dg_P p r j) : ∀ j, j < 32 → bt (dg_tq q r) j = dg_P p (r + r) j := by
  intro j hj
  unfold dg_tq
  rw [b_and, b_shl r hr q hj, hq j hj, hq (j - r) (by omega), dg_Padd p h0 r j]
/-- the tree's result after four doublings -/
def dg_tree (g p c : Int32) : Int32 :=
  let m0 := g ||| (p &&& c)
  let m1 := dg_tm m0 p 1
  let q1 := dg_tq p 1
  let m2 := dg_tm m1 q1 2
  let q2 := dg_tq q1 2
  let m3 := dg_tm m2 q2 4
  let q3 := dg_tq q2 4
  let m4 := dg_tm m3 q3 8
  (m4 <<< ((1 : Int32) &&& 31)) ||| c
theorem dg_tree_b (x y : Int32) (c : Bool) : ∀ j, j < 16 → bt (dg_tree (x &&& y) (x ^^^ y) (dg_c c)) j = dg_cy x y c j := by
  have hm0 : ∀ j, j < 32 → bt ((x &&& y) ||| ((x ^^^ y) &&& dg_c c)) j = dg_G (dg_g x y c) (dg_p x y) 1 j := by
    intro j hj
    rw [b_or, b_and, b_and, b_xor, dg_cb]
    cases j with
    | zero => simp [dg_G, dg_g]
    | succ j => simp [dg_G, dg_g]
  have hq0 : ∀ j, j < 32 → bt (x ^^^ y) j = dg_P (dg_p x y) 1 j := by
    intro j hj
    rw [b_xor]
    cases j with
    | zero => simp [dg_P, dg_p]
    | succ j => simp [dg_P, dg_p]
  have hm1 := dg_tm_b (by omega) hm0 hq0
  have hq1 := dg_tq_b (by omega) (by omega) hq0
  have hm2 := dg_tm_b (r := 2) (by omega) hm1 hq1
  have hq2 := dg_tq_b (r := 2) (by omega) (by omega) hq1
  have hm3 := dg_tm_b (r := 4) (by omega) hm2 hq2
  have hq3 := dg_tq_b (r := 4) (by omega) (by omega) hq2
  have hm4 := dg_tm_b (r := 8) (by omega) hm3 hq3
  intro j hj
  unfold dg_tree
  dsimp only
  rw [b_or, dg_cb]
  refine (congrArg (fun z => z || (decide (j = 0) && c)) (b_shl 1 (by omega) _ (by omega : j < 32))).trans ?_
  cases j with
  | zero => simp [dg_cy0]
  | succ j =>
    rw [Nat.add_sub_cancel, hm4 j (by omega), dg_Gcy x y c j _ (by omega)]
    simp
/-! both, over naturals -/
theorem dg_cN {c : Nat} (h : c ≤ 1) : nI c = dg_c (decide (c = 1)) := by
  have h2 : c = 0 ∨ c = 1 := by omega
  rcases h2 with rfl | rfl <;> rfl
theorem dg_sN (a b c : Nat) : (nI a + nI b + nI c) &&& 65535 = nI ((a + b + c) % 65536) := by
  rw [nI_add, nI_add, nx_mod]
theorem dg_sumR (a b c : Nat) (h : c ≤ 1) : ((nI a ^^^ nI b) ^^^ dg_run (nI a &&& nI b) (nI a ^^^ nI b) (nI c) 16) &&& 65535 = nI ((a + b + c) % 65536) := by
  rw [← dg_sN, dg_cN h]
  apply dg_sum
  intro j hj
  rw [dg_run_b _ _ _ 16 (by omega) j (by omega), decide_eq_true (by omega : j ≤ 16), Bool.true_and]
theorem dg_sumT (a b c : Nat) (h : c ≤ 1) : ((nI a ^^^ nI b) ^^^ dg_tree (nI a &&& nI b) (nI a ^^^ nI b) (nI c)) &&& 65535 = nI ((a + b + c) % 65536) := by
  rw [← dg_sN, dg_cN h]
  exact dg_sum _ _ _ _ (dg_tree_b _ _ _)
end
section
/-! words of nI: or, masks, shifts, complement -/
theorem dg_at {P : Int32 → Prop} {x y : Int32} (e : x = y) (h : P y) : P x := by rw [e]; exact h
theorem dg_or (a b : Nat) : nI a ||| nI b = nI (a ||| b) := by
  apply Int32.toBitVec_inj.1
  show BitVec.ofNat 32 a ||| BitVec.ofNat 32 b = BitVec.ofNat 32 (a ||| b)
  apply BitVec.eq_of_getLsbD_eq
  intro i hi
  simp [hi]
theorem dg_msk (a w : Nat) : nI a &&& nI (2 ^ w - 1) = nI (a % 2 ^ w) := by rw [nx_and, Nat.and_two_pow_sub_one_eq_mod]
theorem dg_a1 (a : Nat) : nI a &&& 1 = nI (a % 2) := dg_msk a 1
theorem dg_shl {a i : Nat} (hi : i < 32) (h : a * 2 ^ i < 2 ^ 32) : nI a <<< (nI i &&& 31) = nI (a * 2 ^ i) := pk_shlN _ i (s_l i hi) h
theorem dg_shr {a i : Nat} (hi : i < 32) (h : a < 2 ^ 31) : nI a >>> (nI i &&& 31) = nI (a / 2 ^ i) := pk_shrN h _ i (s_l i hi)
theorem dg_1s : ∀ i, i < 31 → (1 : Int32) <<< (nI i &&& 31) = nI (2 ^ i) := by decide +kernel
theorem dg_neg {y : Nat} (h : y < 2 ^ 32) : nI y ^^^ (-1) = nI (4294967295 - y) := by
  apply Int32.toBitVec_inj.mp
  rw [Int32.toBitVec_xor, show (-1 : Int32).toBitVec = BitVec.allOnes 32 by decide, BitVec.xor_allOnes]
  apply BitVec.eq_of_toNat_eq
  rw [BitVec.toNat_not, pk_tn h, pk_tn (by omega)]
theorem dg_not {y : Nat} (h : y < 65536) : (nI y ^^^ (-1)) &&& 65535 = nI (65535 - y) := by
  rw [dg_neg (by omega), nx_mod]
  exact congrArg nI (by omega)
theorem dg_pred {w : Nat} (h : 1 ≤ w) : nI w - 1 = nI (w - 1) := by
  obtain ⟨k, rfl⟩ : ∃ k, w = k + 1 := ⟨w - 1, by omega⟩
  exact nI_pred k
theorem dg_bit {x i : Nat} (hi : i < 32) (h : x < 2 ^ 31) : (nI x >>> (nI i &&& 31)) &&& 1 = nI (x / 2 ^ i % 2) := by
  rw [dg_shr hi h, dg_a1]
/-! powers up to 2^6 -/
theorem dg_p6 : ∀ i, i ≤ 6 → 2 ^ i ≤ 64 := by decide
theorem dg_p2 : ∀ w, 2 ≤ w → 4 ≤ 2 ^ w := fun w h => Nat.pow_le_pow_right (n := 2) (i := 2) (by decide) h
theorem dg_pp : ∀ w, 1 ≤ w → 2 ^ w = 2 * 2 ^ (w - 1) := by
  intro w h
  obtain ⟨k, rfl⟩ : ∃ k, w = k + 1 := ⟨w - 1, by omega⟩
  rw [Nat.add_sub_cancel, Nat.pow_succ, Nat.mul_comm]
/-! the walks of the adder -/
theorem dg_runL (post : Int32 → Prop) (g p c : Int32) (h : post (dg_run g p c 16)) : ∀ d i, i + d = 16 → wX_runningCarries_5 post g p (d + 1) (dg_run g p c i) (nI i) := by
  intro d
  induction d with
  | zero =>
    intro i hi
    obtain rfl : i = 16 := by omega
    exact br_t (by decide) h
  | succ d ih =>
    intro i hi
    exact br_f (nI_ge (b := 16) (by omega) (by decide)) (nm_e (nm_e (nm_r (nI_1 i) (ih (i + 1) (by omega)))))
theorem dg_runW (post : Int32 → Prop) (g p c : Int32) (h : post (dg_run g p c 16)) : wpX_runningCarries post g p c := ⟨17, dg_runL post g p c h 16 0 rfl⟩
theorem dg_treeW (post : Int32 → Prop) (g p c : Int32) (h : post (dg_tree g p c)) : wpX_treeCarries post g p c :=
  nm_e ⟨5, br_f (by decide) (nm_r (e' := nI 1) (by decide +kernel) (nm_e (nm_e (nm_r (e' := nI 1) (by decide +kernel)
    (br_f (by decide) (nm_r (e' := nI 2) (by decide +kernel) (nm_e (nm_e (nm_r (e' := nI 2) (by decide +kernel)
    (br_f (by decide) (nm_r (e' := nI 4) (by decide +kernel) (nm_e (nm_e (nm_r (e' := nI 3) (by decide +kernel)
    (br_f (by decide) (nm_r (e' := nI 8) (by decide +kernel) (nm_e (nm_e (nm_r (e' := nI 4) (by decide +kernel)
    (br_t (by decide) h))))))))))))))))))))⟩
theorem dg_sumW (post : Int32 → Prop) (w m t a b : Int32) (x y c : Nat) (hc : c ≤ 1) (h : post (nI ((x + y + c) % 65536))) : wpX_sum post (w, m, t, a, b) (nI x) (nI y) (nI c) := by
  unfold wpX_sum
  refine nm_e (nm_e (br_c (fun _ => ?_) (fun _ => ?_)))
  · exact dg_runW _ _ _ _ (dg_at (P := post) (dg_sumR x y c hc) h)
  · exact dg_treeW _ _ _ _ (dg_at (P := post) (dg_sumT x y c hc) h)
theorem dg_difW (post : Int32 → Prop) (w m t a b : Int32) (x y : Nat) (hy : y < 65536) (h : post (nI ((x + (65536 - y)) % 65536))) : wpX_difference post (w, m, t, a, b) (nI x) (nI y) := by
  unfold wpX_difference
  dsimp only
  rw [dg_not hy]
  refine dg_sumW _ _ _ _ _ _ x (65535 - y) 1 (by decide) ?_
  rw [show x + (65535 - y) + 1 = x + (65536 - y) by omega]
  exact h
/-- 1 if x is below y, else 0 -/
def dg_lt (x y : Nat) : Nat := if x < y then 1 else 0
theorem dg_belW (post : Int32 → Prop) (w m t a b : Int32) (x y : Nat) (hx : x < 32768) (hy : y < 32768) (h : post (nI (dg_lt x y))) : wpX_below post (w, m, t, a, b) (nI x) (nI y) := by
  unfold wpX_below
  dsimp only
  refine dg_difW _ _ _ _ _ _ x y (by omega) (dg_at (P := post) ((pk_shrN (by omega) _ 15 (by decide)).trans (congrArg nI ?_)) h)
  unfold dg_lt
  split <;> omega
/-! one wire spread, a choice -/
theorem dg_sp0 (post : Int32 → Prop) (h : post 0) : wpX_spread post (nI 0) :=
  ⟨5, br_f (by decide) (nm_r (e' := nI 0) (by decide +kernel) (nm_r (e' := nI 1) (by decide +kernel)
    (br_f (by decide) (nm_r (e' := nI 0) (by decide +kernel) (nm_r (e' := nI 2) (by decide +kernel)
    (br_f (by decide) (nm_r (e' := nI 0) (by decide +kernel) (nm_r (e' := nI 3) (by decide +kernel)
    (br_f (by decide) (nm_r (e' := nI 0) (by decide +kernel) (nm_r (e' := nI 4) (by decide +kernel)
    (br_t (by decide) h))))))))))))⟩
theorem dg_sp1 (post : Int32 → Prop) (h : post 65535) : wpX_spread post (nI 1) :=
  ⟨5, br_f (by decide) (nm_r (e' := nI 3) (by decide +kernel) (nm_r (e' := nI 1) (by decide +kernel)
    (br_f (by decide) (nm_r (e' := nI 15) (by decide +kernel) (nm_r (e' := nI 2) (by decide +kernel)
    (br_f (by decide) (nm_r (e' := nI 255) (by decide +kernel) (nm_r (e' := nI 3) (by decide +kernel)
    (br_f (by decide) (nm_r (e' := nI 65535) (by decide +kernel) (nm_r (e' := nI 4) (by decide +kernel)
    (br_t (by decide) h))))))))))))⟩
theorem dg_ch0 (p : Int32) (q : Nat) (hq : q < 65536) : (p &&& 0) ||| ((nI q &&& ((0 : Int32) ^^^ (-1))) &&& 65535) = nI q := by
  rw [show (0 : Int32) ^^^ (-1) = -1 by decide, Int32.and_zero, Int32.zero_or, Int32.and_neg_one]
  exact nx_m16 hq
theorem dg_ch1 (q : Int32) (p : Nat) (hp : p < 65536) : (nI p &&& 65535) ||| ((q &&& ((65535 : Int32) ^^^ (-1))) &&& 65535) = nI p := by
  rw [Int32.and_assoc, show ((65535 : Int32) ^^^ (-1)) &&& 65535 = 0 by decide, Int32.and_zero, Int32.or_zero]
  exact nx_m16 hp
theorem dg_cho (post : Int32 → Prop) (s p q : Nat) (hs : s ≤ 1) (hp : p < 65536) (hq : q < 65536) (h : post (nI (if s = 1 then p else q))) : wpX_choose post (nI s) (nI p) (nI q) := by
  unfold wpX_choose
  have h2 : s = 0 ∨ s = 1 := by omega
  rcases h2 with rfl | rfl
  · exact dg_sp0 _ (dg_at (P := post) (dg_ch0 (nI p) q hq) h)
  · exact dg_sp1 _ (dg_at (P := post) (dg_ch1 (nI q) p hp) h)
end
section
/-! the amount: y modulo the width, by long division -/
def dg_am (w : Nat) : Nat → Nat → Nat
  | 0, r => r
  | d + 1, r => dg_am w d (if r < w * 2 ^ d then r else r - w * 2 ^ d)
theorem dg_wb : ∀ w, w ≤ 6 → ∀ d, d < 6 → w * 2 ^ d ≤ 192 := by decide
theorem dg_amL (post : Int32 → Prop) (w : Nat) (hw : w ≤ 6) (m t a b : Int32) : ∀ d r, d ≤ 6 → r < 64 → post (nI (dg_am w d r)) → wX_shiftAmount_9 post (nI w) m t a b (d + 1) (nI r) (nI d + (-1)) := by
  intro d
  induction d with
  | zero =>
    intro r _ _ h
    exact br_t (by decide) h
  | succ d ih =>
    intro r hd hr h
    have hb := dg_wb w hw d (by omega)
    rw [pk_m1]
    refine br_f (nI_pos (by omega)) ?_
    rw [dg_shl (by omega) (by omega)]
    refine dg_difW _ _ _ _ _ _ r (w * 2 ^ d) (by omega) ?_
    have e := pk_shrN (n := (r + (65536 - w * 2 ^ d)) % 65536) (by omega) ((15 : Int32) &&& 31) 15 (by decide)
    refine nm_r e ?_
    have h' : post (nI (dg_am w d (if r < w * 2 ^ d then r else r - w * 2 ^ d))) := h
    by_cases z : r < w * 2 ^ d
    · rw [if_pos z] at h'
      refine dg_cho _ _ r _ (by omega) (by omega) (by omega) ?_
      rw [if_pos (show (r + (65536 - w * 2 ^ d)) % 65536 / 2 ^ 15 = 1 by omega)]
      exact nm_e (ih r (by omega) hr h')
    · rw [if_neg z] at h'
      refine dg_cho _ _ r _ (by omega) (by omega) (by omega) ?_
      rw [if_neg (show ¬ (r + (65536 - w * 2 ^ d)) % 65536 / 2 ^ 15 = 1 by omega), show (r + (65536 - w * 2 ^ d)) % 65536 = r - w * 2 ^ d by omega]
      exact nm_e (ih _ (by omega) (by omega) h')
theorem dg_amE : ∀ w, w < 7 → ∀ y, y < 2 ^ w → 2 ≤ w → dg_am w w y = y % w := by decide +kernel
theorem dg_amW (post : Int32 → Prop) (w : Nat) (h2 : 2 ≤ w) (h6 : w ≤ 6) (m t a b : Int32) (y : Nat) (hy : y < 2 ^ w) (h : post (nI (y % w))) : wpX_shiftAmount post (nI w, m, t, a, b) (nI y) := by
  unfold wpX_shiftAmount
  have hp := dg_p6 w h6
  refine nm_r (show nI w - 1 = nI w + (-1) from Int32.sub_eq_add_neg _ _) ⟨w + 1, dg_amL post w h6 m t a b w y h6 (by omega) ?_⟩
  rw [dg_amE w (by omega) y hy h2]
  exact h
/-! the product, row by row -/
def dg_pr (x y : Nat) : Nat → Nat → Nat → Nat
  | 0, _, s => s
  | d + 1, i, s => dg_pr x y d (i + 1) ((s + x * 2 ^ i * (y / 2 ^ i % 2) + 0) % 65536)
theorem dg_xb {x i : Nat} (hx : x < 64) (hi : i < 6) : x * 2 ^ i < 4096 := by
  have h : 2 ^ i ≤ 2 ^ 5 := Nat.pow_le_pow_right (by decide) (by omega)
  have h2 := Nat.mul_le_mul (show x ≤ 63 by omega) h
  omega
theorem dg_prL (post : Int32 → Prop) (w : Nat) (hw : w ≤ 6) (m t a b : Int32) (x y : Nat) (hx : x < 64) (hy : y < 64) : ∀ d i s, i + d = w → post (nI (dg_pr x y d i s)) → wX_product_5 post (nI x) (nI y) (nI w) m t a b (d + 1) (nI s) (nI i) := by
  intro d
  induction d with
  | zero =>
    intro i s hi h
    obtain rfl : i = w := by omega
    exact br_t (nI_le (Nat.le_refl _) (by omega)) h
  | succ d ih =>
    intro i s hi h
    have h' : post (nI (dg_pr x y d (i + 1) ((s + x * 2 ^ i * (y / 2 ^ i % 2) + 0) % 65536))) := h
    have hb := dg_xb (i := i) hx (by omega)
    refine br_f (nI_ge (by omega) (by omega)) ?_
    rw [dg_bit (by omega) (by omega)]
    have z : y / 2 ^ i % 2 = 0 ∨ y / 2 ^ i % 2 = 1 := by omega
    rcases z with z | z
    · rw [z] at h' ⊢
      refine dg_sp0 _ (nm_r (e' := nI (x * 2 ^ i * 0)) (Int32.and_zero.trans (by rw [Nat.mul_zero, nI_0])) ?_)
      exact dg_sumW _ _ _ _ _ _ s _ 0 (by decide) (nm_r (nI_1 i) (ih (i + 1) _ (by omega) h'))
    · rw [z] at h' ⊢
      refine dg_sp1 _ (nm_r (e' := nI (x * 2 ^ i * 1)) (by rw [dg_shl (by omega) (by omega), Nat.mul_one]; exact nx_m16 (by omega)) ?_)
      exact dg_sumW _ _ _ _ _ _ s _ 0 (by decide) (nm_r (nI_1 i) (ih (i + 1) _ (by omega) h'))
theorem dg_prE : ∀ w, w < 7 → ∀ x, x < 2 ^ w → ∀ y, y < 2 ^ w → dg_pr x y w 0 0 = x * y := by decide +kernel
theorem dg_prW (post : Int32 → Prop) (w : Nat) (h6 : w ≤ 6) (m t a b : Int32) (x y : Nat) (hx : x < 2 ^ w) (hy : y < 2 ^ w) (h : post (nI (x * y))) : wpX_product post (nI w, m, t, a, b) (nI x) (nI y) := by
  unfold wpX_product
  have hp := dg_p6 w h6
  refine ⟨w + 1, dg_prL post w h6 m t a b x y (by omega) (by omega) w 0 0 (by omega) ?_⟩
  rw [dg_prE w (by omega) x hx y hy]
  exact h
/-! shifts in three stages -/
theorem dg_slS (post : Int32 → Prop) (am v i n : Nat) (hi : i < 3) (ha : am < 8) (hv : v < 4096) (h : wX_shiftedLeft_4 post (nI am) n (nI (if am / 2 ^ i % 2 = 1 then v * 2 ^ 2 ^ i else v)) (nI (i + 1))) : wX_shiftedLeft_4 post (nI am) (n + 1) (nI v) (nI i) := by
  have hp : 2 ^ 2 ^ i ≤ 16 := (by decide : ∀ i, i < 3 → 2 ^ 2 ^ i ≤ 16) i hi
  have hq : 2 ^ i ≤ 4 := (by decide : ∀ i, i < 3 → 2 ^ i ≤ 4) i hi
  have hm := Nat.mul_le_mul (show v ≤ 4095 by omega) hp
  refine br_f (nI_ge (b := 3) hi (by decide)) ?_
  rw [dg_bit (by omega) (by omega), dg_1s i (by omega), dg_shl (by omega) (by omega)]
  exact dg_cho _ _ _ _ (by omega) (by omega) (by omega) (nm_r (nI_1 i) h)
theorem dg_slW (post : Int32 → Prop) (x am : Nat) (hx : x < 64) (ha : am < 8) (h : post (nI (x * 2 ^ am))) : wpX_shiftedLeft post (nI x) (nI am) := by
  unfold wpX_shiftedLeft
  have hc : am = 0 ∨ am = 1 ∨ am = 2 ∨ am = 3 ∨ am = 4 ∨ am = 5 ∨ am = 6 ∨ am = 7 := by omega
  refine ⟨4, dg_slS post am x 0 3 (by decide) ha (by omega) (dg_slS post am _ 1 2 (by decide) ha (by split <;> omega) (dg_slS post am _ 2 1 (by decide) ha (by split <;> split <;> omega) (br_t (by decide) ?_)))⟩
  refine dg_at (P := post) (congrArg nI ?_) h
  rcases hc with rfl | rfl | rfl | rfl | rfl | rfl | rfl | rfl <;> simp <;> omega
theorem dg_srS (post : Int32 → Prop) (am v i n : Nat) (hi : i < 3) (ha : am < 8) (hv : v < 65536) (h : wX_shiftedRight_4 post (nI am) n (nI (if am / 2 ^ i % 2 = 1 then v / 2 ^ 2 ^ i else v)) (nI (i + 1))) : wX_shiftedRight_4 post (nI am) (n + 1) (nI v) (nI i) := by
  have hq : 2 ^ i ≤ 4 := (by decide : ∀ i, i < 3 → 2 ^ i ≤ 4) i hi
  have hm : v / 2 ^ 2 ^ i ≤ v := Nat.div_le_self _ _
  refine br_f (nI_ge (b := 3) hi (by decide)) ?_
  rw [dg_bit (by omega) (by omega), dg_1s i (by omega), dg_shr (by omega) (by omega)]
  exact dg_cho _ _ _ _ (by omega) (by omega) (by omega) (nm_r (nI_1 i) h)
theorem dg_srW (post : Int32 → Prop) (x am : Nat) (hx : x < 65536) (ha : am < 8) (h : post (nI (x / 2 ^ am))) : wpX_shiftedRight post (nI x) (nI am) := by
  unfold wpX_shiftedRight
  have hc : am = 0 ∨ am = 1 ∨ am = 2 ∨ am = 3 ∨ am = 4 ∨ am = 5 ∨ am = 6 ∨ am = 7 := by omega
  refine ⟨4, dg_srS post am x 0 3 (by decide) ha hx (dg_srS post am _ 1 2 (by decide) ha (by split <;> omega) (dg_srS post am _ 2 1 (by decide) ha (by split <;> split <;> omega) (br_t (by decide) ?_)))⟩
  refine dg_at (P := post) (congrArg nI ?_) h
  rcases hc with rfl | rfl | rfl | rfl | rfl | rfl | rfl | rfl <;> simp <;> omega
end
section
/-! the sign's copies -/
def dg_hi (w x : Nat) : Nat := if x / 2 ^ (w - 1) = 1 then 65536 - 2 ^ w else 0
theorem dg_top {w x : Nat} (h2 : 2 ≤ w) (hx : x < 2 ^ w) : x / 2 ^ (w - 1) = 0 ∨ x / 2 ^ (w - 1) = 1 := by
  have hp := dg_pp w (by omega)
  have h : x / 2 ^ (w - 1) < 2 := Nat.div_lt_of_lt_mul (by omega)
  generalize x / 2 ^ (w - 1) = q at h
  omega
theorem dg_hiE : ∀ w, w < 7 → (65535 : Int32) &&& (nI (2 ^ w - 1) ^^^ (-1)) = nI (65536 - 2 ^ w) := by decide +kernel
theorem dg_sgW (post : Int32 → Prop) (w : Nat) (h2 : 2 ≤ w) (h6 : w ≤ 6) (t a b : Int32) (x am : Nat) (hx : x < 2 ^ w) (ha : am < 8) (h : post (nI ((x ||| dg_hi w x) / 2 ^ am % 2 ^ w))) : wpX_shiftedRightWithSign post (nI w, nI (2 ^ w - 1), t, a, b) (nI x) (nI am) := by
  unfold wpX_shiftedRightWithSign
  have hp := dg_p6 w h6
  have hp2 := dg_p2 w h2
  dsimp only
  rw [dg_pred (by omega), dg_shr (by omega) (by omega)]
  have hor : ∀ q, q < 65536 → x ||| q < 65536 := fun q hq => Nat.or_lt_two_pow (n := 16) (by omega) hq
  rcases dg_top h2 hx with z | z
  · have e : dg_hi w x = 0 := if_neg (by omega)
    rw [e] at h
    rw [z]
    refine dg_sp0 _ (nm_r (e' := nI 0) Int32.zero_and ?_)
    rw [dg_or]
    exact dg_srW _ _ am (hor 0 (by decide)) ha (dg_at (P := post) (dg_msk _ w) h)
  · have e : dg_hi w x = 65536 - 2 ^ w := if_pos z
    rw [e] at h
    rw [z]
    refine dg_sp1 _ (nm_r (dg_hiE w (by omega)) ?_)
    rw [dg_or]
    exact dg_srW _ _ am (hor _ (by omega)) ha (dg_at (P := post) (dg_msk _ w) h)
theorem dg_tlW (post : Int32 → Prop) (w : Nat) (h6 : w ≤ 6) (t a b : Int32) (x am : Nat) (hx : x < 2 ^ w) (ha : am < 8) (h : post (nI ((x * 2 ^ am ||| x * 2 ^ am / 2 ^ w) % 2 ^ w))) : wpX_turnedLeft post (nI w, nI (2 ^ w - 1), t, a, b) (nI x) (nI am) := by
  unfold wpX_turnedLeft
  have hp := dg_p6 w h6
  have hb : 2 ^ am ≤ 2 ^ 7 := Nat.pow_le_pow_right (by decide) (by omega)
  have hm := Nat.mul_le_mul (show x ≤ 63 by omega) hb
  refine dg_slW _ x am (by omega) ha (dg_at (P := post) ?_ h)
  rw [dg_shr (by omega) (by omega), dg_or, dg_msk]
/-! counts -/
def dg_on (x : Nat) : Nat → Nat → Nat → Nat
  | 0, _, s => s
  | d + 1, i, s => dg_on x d (i + 1) ((s + x / 2 ^ i % 2 + 0) % 65536)
theorem dg_onL (post : Int32 → Prop) (w : Nat) (hw : w ≤ 6) (t a b : Int32) (x : Nat) (hx : x < 64) : ∀ d i s, i + d = w → post (nI (dg_on x d i s % 2 ^ w)) → wX_onesIn_4 post (nI x) (nI w) (nI (2 ^ w - 1)) t a b (d + 1) (nI s) (nI i) := by
  intro d
  induction d with
  | zero =>
    intro i s hi h
    obtain rfl : i = w := by omega
    exact br_t (nI_le (Nat.le_refl _) (by omega)) (dg_at (P := post) (dg_msk _ i) h)
  | succ d ih =>
    intro i s hi h
    have h' : post (nI (dg_on x d (i + 1) ((s + x / 2 ^ i % 2 + 0) % 65536) % 2 ^ w)) := h
    refine br_f (nI_ge (by omega) (by omega)) ?_
    rw [dg_bit (by omega) (by omega)]
    exact dg_sumW _ _ _ _ _ _ s _ 0 (by decide) (nm_r (nI_1 i) (ih (i + 1) _ (by omega) h'))
theorem dg_onW (post : Int32 → Prop) (w : Nat) (h6 : w ≤ 6) (t a b : Int32) (x : Nat) (hx : x < 2 ^ w) (h : post (nI (dg_on x w 0 0 % 2 ^ w))) : wpX_onesIn post (nI w, nI (2 ^ w - 1), t, a, b) (nI x) := by
  unfold wpX_onesIn
  have hp := dg_p6 w h6
  exact ⟨w + 1, dg_onL post w h6 t a b x (by omega) w 0 0 (by omega) h⟩
def dg_ze (x : Nat) : Nat → Nat → Nat → Nat
  | 0, s, _ => s
  | d + 1, s, k => dg_ze x d ((s + k * (1 - x / 2 ^ d % 2) + 0) % 65536) (k * (1 - x / 2 ^ d % 2))
theorem dg_nyE {k q : Nat} (hk : k ≤ 1) (hq : q < 64) : nI k &&& (nI q ^^^ (-1)) = nI (k * (1 - q % 2)) := by
  rw [dg_neg (by omega)]
  have h : k = 0 ∨ k = 1 := by omega
  rcases h with rfl | rfl
  · rw [nx_and, Nat.zero_and, Nat.zero_mul]
  · rw [Int32.and_comm]
    refine (dg_a1 _).trans (congrArg nI ?_)
    omega
theorem dg_zeL (post : Int32 → Prop) (w : Nat) (hw : w ≤ 6) (t a b : Int32) (x : Nat) (hx : x < 64) : ∀ d s k, d ≤ 6 → k ≤ 1 → post (nI (dg_ze x d s k % 2 ^ w)) → wX_zerosAbove_12 post (nI x) (nI w) (nI (2 ^ w - 1)) t a b (d + 1) (nI s) (nI k) (nI d + (-1)) := by
  intro d
  induction d with
  | zero =>
    intro s k _ _ h
    exact br_t (by decide) (dg_at (P := post) (dg_msk _ w) h)
  | succ d ih =>
    intro s k hd hk h
    have h' : post (nI (dg_ze x d ((s + k * (1 - x / 2 ^ d % 2) + 0) % 65536) (k * (1 - x / 2 ^ d % 2)) % 2 ^ w)) := h
    have hq : x / 2 ^ d ≤ x := Nat.div_le_self _ _
    have hk' : k * (1 - x / 2 ^ d % 2) ≤ 1 := Nat.le_trans (Nat.mul_le_mul hk (Nat.sub_le 1 _)) (by decide)
    rw [pk_m1]
    refine br_f (nI_pos (by omega)) ?_
    rw [dg_shr (by omega) (by omega)]
    refine nm_r (dg_nyE hk (by omega)) ?_
    exact dg_sumW _ _ _ _ _ _ s _ 0 (by decide) (nm_e (ih _ _ (by omega) hk' h'))
theorem dg_zeW (post : Int32 → Prop) (w : Nat) (h6 : w ≤ 6) (t a b : Int32) (x : Nat) (hx : x < 2 ^ w) (h : post (nI (dg_ze x w 0 1 % 2 ^ w))) : wpX_zerosAbove post (nI w, nI (2 ^ w - 1), t, a, b) (nI x) := by
  unfold wpX_zerosAbove
  have hp := dg_p6 w h6
  exact nm_r (show nI w - 1 = nI w + (-1) from Int32.sub_eq_add_neg _ _) ⟨w + 1, dg_zeL post w h6 t a b x (by omega) w 0 1 h6 (by decide) h⟩
/-! without its sign -/
def dg_ab (w x : Nat) : Nat := if x / 2 ^ (w - 1) = 1 then (0 + (65536 - x)) % 65536 % 2 ^ w else x
theorem dg_abW (post : Int32 → Prop) (w : Nat) (h2 : 2 ≤ w) (h6 : w ≤ 6) (t a b : Int32) (x : Nat) (hx : x < 2 ^ w) (h : post (nI (dg_ab w x))) : wpX_withoutSign post (nI w, nI (2 ^ w - 1), t, a, b) (nI x) := by
  unfold wpX_withoutSign
  have hp := dg_p6 w h6
  have hl := Nat.mod_lt ((0 + (65536 - x)) % 65536) (Nat.two_pow_pos w)
  have ht := dg_top h2 hx
  refine dg_difW _ _ _ _ _ _ 0 x (by omega) (nm_r (dg_msk _ w) ?_)
  rw [dg_pred (by omega), dg_shr (by omega) (by omega)]
  exact dg_cho _ _ _ _ (by omega) (by omega) (by omega) h
end
section
/-! the value of an operation -/
def dg_val (w op x y : Nat) : Nat := match op with
  | 0 => (x + y) % 2 ^ w
  | 1 => (x + (65536 - y)) % 65536 % 2 ^ w
  | 2 => x * y % 2 ^ w
  | 3 => x * y / 2 ^ w
  | 4 => dg_lt x y
  | 5 => dg_lt (x ^^^ 2 ^ (w - 1)) (y ^^^ 2 ^ (w - 1))
  | 6 => x * 2 ^ (y % w) % 2 ^ w
  | 7 => x / 2 ^ (y % w)
  | 8 => (x ||| dg_hi w x) / 2 ^ (y % w) % 2 ^ w
  | 9 => (x * 2 ^ (y % w) ||| x * 2 ^ (y % w) / 2 ^ w) % 2 ^ w
  | 10 => if dg_lt x y = 1 then x else y
  | 11 => if dg_lt (x ^^^ 2 ^ (w - 1)) (y ^^^ 2 ^ (w - 1)) = 1 then y else x
  | 12 => dg_on x w 0 0 % 2 ^ w
  | 13 => dg_ze x w 0 1 % 2 ^ w
  | 14 => dg_ab w x
  | _ => (x + y) / 2
theorem dg_lt1 (x y : Nat) : dg_lt x y ≤ 1 := by unfold dg_lt; split <;> omega
theorem dg_xy {w x y : Nat} (h6 : w ≤ 6) (hx : x < 2 ^ w) (hy : y < 2 ^ w) : x * y < 4096 := by
  have hp := dg_p6 w h6
  have h := Nat.mul_le_mul (show x ≤ 63 by omega) (show y ≤ 63 by omega)
  omega
theorem dg_xx {w x : Nat} (h2 : 2 ≤ w) (hx : x < 2 ^ w) : x ^^^ 2 ^ (w - 1) < 2 ^ w := Nat.xor_lt_two_pow hx (Nat.pow_lt_pow_right (by decide) (by omega))
theorem dg_yw {w : Nat} (y : Nat) (h2 : 2 ≤ w) (h6 : w ≤ 6) : y % w < 8 := by
  have h := Nat.mod_lt y (show 0 < w by omega)
  omega
theorem dg_o0 (post : Int32 → Prop) (w : Nat) (h2 : 2 ≤ w) (h6 : w ≤ 6) (t a b : Int32) (x y : Nat) (hx : x < 2 ^ w) (hy : y < 2 ^ w) (h : post (nI (dg_val w 0 x y))) : wpX_outcome post (nI w, nI (2 ^ w - 1), t, a, b) (nI 0) (nI x) (nI y) := by
  have hp := dg_p6 w h6
  have hx2 := dg_xx h2 hx
  have hy2 := dg_xx h2 hy
  unfold wpX_outcome
  refine nm_r (e' := nI (2 ^ (w - 1))) (by rw [dg_pred (by omega)]; exact dg_1s (w - 1) (by omega)) ?_
  rw [nx_xor, nx_xor]
  refine dg_belW _ _ _ _ _ _ _ _ (by omega) (by omega) (dg_belW _ _ _ _ _ _ _ _ (by omega) (by omega) (dg_amW _ w h2 h6 _ _ _ _ y hy ?_))
  refine br_f (by decide) (br_f (by decide) (br_t (by decide) (?_)))
  exact dg_sumW _ _ _ _ _ _ x y 0 (by decide) (dg_at (P := post) ((dg_msk _ w).trans (congrArg nI (by show _ = (x + y) % 2 ^ w; rw [Nat.add_zero, Nat.mod_eq_of_lt (show x + y < 65536 by omega)]))) h)
theorem dg_o1 (post : Int32 → Prop) (w : Nat) (h2 : 2 ≤ w) (h6 : w ≤ 6) (t a b : Int32) (x y : Nat) (hx : x < 2 ^ w) (hy : y < 2 ^ w) (h : post (nI (dg_val w 1 x y))) : wpX_outcome post (nI w, nI (2 ^ w - 1), t, a, b) (nI 1) (nI x) (nI y) := by
  have hp := dg_p6 w h6
  have hx2 := dg_xx h2 hx
  have hy2 := dg_xx h2 hy
  unfold wpX_outcome
  refine nm_r (e' := nI (2 ^ (w - 1))) (by rw [dg_pred (by omega)]; exact dg_1s (w - 1) (by omega)) ?_
  rw [nx_xor, nx_xor]
  refine dg_belW _ _ _ _ _ _ _ _ (by omega) (by omega) (dg_belW _ _ _ _ _ _ _ _ (by omega) (by omega) (dg_amW _ w h2 h6 _ _ _ _ y hy ?_))
  refine br_f (by decide) (br_f (by decide) (br_f (by decide) (br_t (by decide) (?_))))
  exact dg_difW _ _ _ _ _ _ x y (by omega) (dg_at (P := post) (dg_msk _ w) h)
theorem dg_o2 (post : Int32 → Prop) (w : Nat) (h2 : 2 ≤ w) (h6 : w ≤ 6) (t a b : Int32) (x y : Nat) (hx : x < 2 ^ w) (hy : y < 2 ^ w) (h : post (nI (dg_val w 2 x y))) : wpX_outcome post (nI w, nI (2 ^ w - 1), t, a, b) (nI 2) (nI x) (nI y) := by
  have hp := dg_p6 w h6
  have hx2 := dg_xx h2 hx
  have hy2 := dg_xx h2 hy
  unfold wpX_outcome
  refine nm_r (e' := nI (2 ^ (w - 1))) (by rw [dg_pred (by omega)]; exact dg_1s (w - 1) (by omega)) ?_
  rw [nx_xor, nx_xor]
  refine dg_belW _ _ _ _ _ _ _ _ (by omega) (by omega) (dg_belW _ _ _ _ _ _ _ _ (by omega) (by omega) (dg_amW _ w h2 h6 _ _ _ _ y hy ?_))
  refine br_f (by decide) (br_f (by decide) (br_f (by decide) (br_f (by decide) (br_t (by decide) (?_)))))
  exact dg_prW _ w h6 _ _ _ _ x y hx hy (dg_at (P := post) (dg_msk _ w) h)
theorem dg_o3 (post : Int32 → Prop) (w : Nat) (h2 : 2 ≤ w) (h6 : w ≤ 6) (t a b : Int32) (x y : Nat) (hx : x < 2 ^ w) (hy : y < 2 ^ w) (h : post (nI (dg_val w 3 x y))) : wpX_outcome post (nI w, nI (2 ^ w - 1), t, a, b) (nI 3) (nI x) (nI y) := by
  have hp := dg_p6 w h6
  have hx2 := dg_xx h2 hx
  have hy2 := dg_xx h2 hy
  unfold wpX_outcome
  refine nm_r (e' := nI (2 ^ (w - 1))) (by rw [dg_pred (by omega)]; exact dg_1s (w - 1) (by omega)) ?_
  rw [nx_xor, nx_xor]
  refine dg_belW _ _ _ _ _ _ _ _ (by omega) (by omega) (dg_belW _ _ _ _ _ _ _ _ (by omega) (by omega) (dg_amW _ w h2 h6 _ _ _ _ y hy ?_))
  refine br_f (by decide) (br_f (by decide) (br_f (by decide) (br_f (by decide) (br_f (by decide) (br_t (by decide) (?_))))))
  exact dg_prW _ w h6 _ _ _ _ x y hx hy (dg_at (P := post) (dg_shr (by omega) (Nat.lt_trans (dg_xy h6 hx hy) (by decide))) h)
theorem dg_o4 (post : Int32 → Prop) (w : Nat) (h2 : 2 ≤ w) (h6 : w ≤ 6) (t a b : Int32) (x y : Nat) (hx : x < 2 ^ w) (hy : y < 2 ^ w) (h : post (nI (dg_val w 4 x y))) : wpX_outcome post (nI w, nI (2 ^ w - 1), t, a, b) (nI 4) (nI x) (nI y) := by
  have hp := dg_p6 w h6
  have hx2 := dg_xx h2 hx
  have hy2 := dg_xx h2 hy
  unfold wpX_outcome
  refine nm_r (e' := nI (2 ^ (w - 1))) (by rw [dg_pred (by omega)]; exact dg_1s (w - 1) (by omega)) ?_
  rw [nx_xor, nx_xor]
  refine dg_belW _ _ _ _ _ _ _ _ (by omega) (by omega) (dg_belW _ _ _ _ _ _ _ _ (by omega) (by omega) (dg_amW _ w h2 h6 _ _ _ _ y hy ?_))
  refine br_f (by decide) (br_f (by decide) (br_f (by decide) (br_f (by decide) (br_f (by decide) (br_f (by decide) (br_t (by decide) (?_)))))))
  exact h
theorem dg_o5 (post : Int32 → Prop) (w : Nat) (h2 : 2 ≤ w) (h6 : w ≤ 6) (t a b : Int32) (x y : Nat) (hx : x < 2 ^ w) (hy : y < 2 ^ w) (h : post (nI (dg_val w 5 x y))) : wpX_outcome post (nI w, nI (2 ^ w - 1), t, a, b) (nI 5) (nI x) (nI y) := by
  have hp := dg_p6 w h6
  have hx2 := dg_xx h2 hx
  have hy2 := dg_xx h2 hy
  unfold wpX_outcome
  refine nm_r (e' := nI (2 ^ (w - 1))) (by rw [dg_pred (by omega)]; exact dg_1s (w - 1) (by omega)) ?_
  rw [nx_xor, nx_xor]
  refine dg_belW _ _ _ _ _ _ _ _ (by omega) (by omega) (dg_belW _ _ _ _ _ _ _ _ (by omega) (by omega) (dg_amW _ w h2 h6 _ _ _ _ y hy ?_))
  refine br_f (by decide) (br_f (by decide) (br_f (by decide) (br_f (by decide) (br_f (by decide) (br_f (by decide) (br_f (by decide) (br_t (by decide) (?_))))))))
  exact h
theorem dg_o6 (post : Int32 → Prop) (w : Nat) (h2 : 2 ≤ w) (h6 : w ≤ 6) (t a b : Int32) (x y : Nat) (hx : x < 2 ^ w) (hy : y < 2 ^ w) (h : post (nI (dg_val w 6 x y))) : wpX_outcome post (nI w, nI (2 ^ w - 1), t, a, b) (nI 6) (nI x) (nI y) := by
  have hp := dg_p6 w h6
  have hx2 := dg_xx h2 hx
  have hy2 := dg_xx h2 hy
  unfold wpX_outcome
  refine nm_r (e' := nI (2 ^ (w - 1))) (by rw [dg_pred (by omega)]; exact dg_1s (w - 1) (by omega)) ?_
  rw [nx_xor, nx_xor]
  refine dg_belW _ _ _ _ _ _ _ _ (by omega) (by omega) (dg_belW _ _ _ _ _ _ _ _ (by omega) (by omega) (dg_amW _ w h2 h6 _ _ _ _ y hy ?_))
  refine br_f (by decide) (br_f (by decide) (br_f (by decide) (br_f (by decide) (br_f (by decide) (br_f (by decide) (br_f (by decide) (br_f (by decide) (br_t (by decide) (?_)))))))))
  exact dg_slW _ x _ (by omega) (dg_yw y h2 h6) (dg_at (P := post) (dg_msk _ w) h)
theorem dg_o7 (post : Int32 → Prop) (w : Nat) (h2 : 2 ≤ w) (h6 : w ≤ 6) (t a b : Int32) (x y : Nat) (hx : x < 2 ^ w) (hy : y < 2 ^ w) (h : post (nI (dg_val w 7 x y))) : wpX_outcome post (nI w, nI (2 ^ w - 1), t, a, b) (nI 7) (nI x) (nI y) := by
  have hp := dg_p6 w h6
  have hx2 := dg_xx h2 hx
  have hy2 := dg_xx h2 hy
  unfold wpX_outcome
  refine nm_r (e' := nI (2 ^ (w - 1))) (by rw [dg_pred (by omega)]; exact dg_1s (w - 1) (by omega)) ?_
  rw [nx_xor, nx_xor]
  refine dg_belW _ _ _ _ _ _ _ _ (by omega) (by omega) (dg_belW _ _ _ _ _ _ _ _ (by omega) (by omega) (dg_amW _ w h2 h6 _ _ _ _ y hy ?_))
  refine br_f (by decide) (br_f (by decide) (br_f (by decide) (br_f (by decide) (br_f (by decide) (br_f (by decide) (br_f (by decide) (br_f (by decide) (br_f (by decide) (br_t (by decide) (?_))))))))))
  exact dg_srW _ x _ (by omega) (dg_yw y h2 h6) h
theorem dg_o8 (post : Int32 → Prop) (w : Nat) (h2 : 2 ≤ w) (h6 : w ≤ 6) (t a b : Int32) (x y : Nat) (hx : x < 2 ^ w) (hy : y < 2 ^ w) (h : post (nI (dg_val w 8 x y))) : wpX_outcome post (nI w, nI (2 ^ w - 1), t, a, b) (nI 8) (nI x) (nI y) := by
  have hp := dg_p6 w h6
  have hx2 := dg_xx h2 hx
  have hy2 := dg_xx h2 hy
  unfold wpX_outcome
  refine nm_r (e' := nI (2 ^ (w - 1))) (by rw [dg_pred (by omega)]; exact dg_1s (w - 1) (by omega)) ?_
  rw [nx_xor, nx_xor]
  refine dg_belW _ _ _ _ _ _ _ _ (by omega) (by omega) (dg_belW _ _ _ _ _ _ _ _ (by omega) (by omega) (dg_amW _ w h2 h6 _ _ _ _ y hy ?_))
  refine br_f (by decide) (br_f (by decide) (br_f (by decide) (br_f (by decide) (br_f (by decide) (br_f (by decide) (br_f (by decide) (br_f (by decide) (br_f (by decide) (br_f (by decide) (br_t (by decide) (?_)))))))))))
  exact dg_sgW _ w h2 h6 _ _ _ x _ hx (dg_yw y h2 h6) h
theorem dg_o9 (post : Int32 → Prop) (w : Nat) (h2 : 2 ≤ w) (h6 : w ≤ 6) (t a b : Int32) (x y : Nat) (hx : x < 2 ^ w) (hy : y < 2 ^ w) (h : post (nI (dg_val w 9 x y))) : wpX_outcome post (nI w, nI (2 ^ w - 1), t, a, b) (nI 9) (nI x) (nI y) := by
  have hp := dg_p6 w h6
  have hx2 := dg_xx h2 hx
  have hy2 := dg_xx h2 hy
  unfold wpX_outcome
  refine nm_r (e' := nI (2 ^ (w - 1))) (by rw [dg_pred (by omega)]; exact dg_1s (w - 1) (by omega)) ?_
  rw [nx_xor, nx_xor]
  refine dg_belW _ _ _ _ _ _ _ _ (by omega) (by omega) (dg_belW _ _ _ _ _ _ _ _ (by omega) (by omega) (dg_amW _ w h2 h6 _ _ _ _ y hy ?_))
  refine br_f (by decide) (br_f (by decide) (br_f (by decide) (br_f (by decide) (br_f (by decide) (br_f (by decide) (br_f (by decide) (br_f (by decide) (br_f (by decide) (br_f (by decide) (br_f (by decide) (br_t (by decide) (?_))))))))))))
  exact dg_tlW _ w h6 _ _ _ x _ hx (dg_yw y h2 h6) h
theorem dg_o10 (post : Int32 → Prop) (w : Nat) (h2 : 2 ≤ w) (h6 : w ≤ 6) (t a b : Int32) (x y : Nat) (hx : x < 2 ^ w) (hy : y < 2 ^ w) (h : post (nI (dg_val w 10 x y))) : wpX_outcome post (nI w, nI (2 ^ w - 1), t, a, b) (nI 10) (nI x) (nI y) := by
  have hp := dg_p6 w h6
  have hx2 := dg_xx h2 hx
  have hy2 := dg_xx h2 hy
  unfold wpX_outcome
  refine nm_r (e' := nI (2 ^ (w - 1))) (by rw [dg_pred (by omega)]; exact dg_1s (w - 1) (by omega)) ?_
  rw [nx_xor, nx_xor]
  refine dg_belW _ _ _ _ _ _ _ _ (by omega) (by omega) (dg_belW _ _ _ _ _ _ _ _ (by omega) (by omega) (dg_amW _ w h2 h6 _ _ _ _ y hy ?_))
  refine br_f (by decide) (br_f (by decide) (br_f (by decide) (br_f (by decide) (br_f (by decide) (br_f (by decide) (br_f (by decide) (br_f (by decide) (br_f (by decide) (br_f (by decide) (br_f (by decide) (br_f (by decide) (br_t (by decide) (?_)))))))))))))
  exact dg_cho _ _ x y (dg_lt1 _ _) (by omega) (by omega) h
theorem dg_o11 (post : Int32 → Prop) (w : Nat) (h2 : 2 ≤ w) (h6 : w ≤ 6) (t a b : Int32) (x y : Nat) (hx : x < 2 ^ w) (hy : y < 2 ^ w) (h : post (nI (dg_val w 11 x y))) : wpX_outcome post (nI w, nI (2 ^ w - 1), t, a, b) (nI 11) (nI x) (nI y) := by
  have hp := dg_p6 w h6
  have hx2 := dg_xx h2 hx
  have hy2 := dg_xx h2 hy
  unfold wpX_outcome
  refine nm_r (e' := nI (2 ^ (w - 1))) (by rw [dg_pred (by omega)]; exact dg_1s (w - 1) (by omega)) ?_
  rw [nx_xor, nx_xor]
  refine dg_belW _ _ _ _ _ _ _ _ (by omega) (by omega) (dg_belW _ _ _ _ _ _ _ _ (by omega) (by omega) (dg_amW _ w h2 h6 _ _ _ _ y hy ?_))
  refine br_f (by decide) (br_f (by decide) (br_f (by decide) (br_f (by decide) (br_f (by decide) (br_f (by decide) (br_f (by decide) (br_f (by decide) (br_f (by decide) (br_f (by decide) (br_f (by decide) (br_f (by decide) (br_f (by decide) (br_t (by decide) (?_))))))))))))))
  exact dg_cho _ _ y x (dg_lt1 _ _) (by omega) (by omega) h
theorem dg_o12 (post : Int32 → Prop) (w : Nat) (h2 : 2 ≤ w) (h6 : w ≤ 6) (t a b : Int32) (x y : Nat) (hx : x < 2 ^ w) (hy : y < 2 ^ w) (h : post (nI (dg_val w 12 x y))) : wpX_outcome post (nI w, nI (2 ^ w - 1), t, a, b) (nI 12) (nI x) (nI y) := by
  have hp := dg_p6 w h6
  have hx2 := dg_xx h2 hx
  have hy2 := dg_xx h2 hy
  unfold wpX_outcome
  refine nm_r (e' := nI (2 ^ (w - 1))) (by rw [dg_pred (by omega)]; exact dg_1s (w - 1) (by omega)) ?_
  rw [nx_xor, nx_xor]
  refine dg_belW _ _ _ _ _ _ _ _ (by omega) (by omega) (dg_belW _ _ _ _ _ _ _ _ (by omega) (by omega) (dg_amW _ w h2 h6 _ _ _ _ y hy ?_))
  refine br_f (by decide) (br_f (by decide) (br_f (by decide) (br_f (by decide) (br_f (by decide) (br_f (by decide) (br_f (by decide) (br_f (by decide) (br_f (by decide) (br_f (by decide) (br_f (by decide) (br_f (by decide) (br_f (by decide) (br_f (by decide) (br_t (by decide) (?_)))))))))))))))
  exact dg_onW _ w h6 _ _ _ x hx h
theorem dg_o13 (post : Int32 → Prop) (w : Nat) (h2 : 2 ≤ w) (h6 : w ≤ 6) (t a b : Int32) (x y : Nat) (hx : x < 2 ^ w) (hy : y < 2 ^ w) (h : post (nI (dg_val w 13 x y))) : wpX_outcome post (nI w, nI (2 ^ w - 1), t, a, b) (nI 13) (nI x) (nI y) := by
  have hp := dg_p6 w h6
  have hx2 := dg_xx h2 hx
  have hy2 := dg_xx h2 hy
  unfold wpX_outcome
  refine nm_r (e' := nI (2 ^ (w - 1))) (by rw [dg_pred (by omega)]; exact dg_1s (w - 1) (by omega)) ?_
  rw [nx_xor, nx_xor]
  refine dg_belW _ _ _ _ _ _ _ _ (by omega) (by omega) (dg_belW _ _ _ _ _ _ _ _ (by omega) (by omega) (dg_amW _ w h2 h6 _ _ _ _ y hy ?_))
  refine br_f (by decide) (br_f (by decide) (br_f (by decide) (br_f (by decide) (br_f (by decide) (br_f (by decide) (br_f (by decide) (br_f (by decide) (br_f (by decide) (br_f (by decide) (br_f (by decide) (br_f (by decide) (br_f (by decide) (br_f (by decide) (br_f (by decide) (br_t (by decide) (?_))))))))))))))))
  exact dg_zeW _ w h6 _ _ _ x hx h
theorem dg_o14 (post : Int32 → Prop) (w : Nat) (h2 : 2 ≤ w) (h6 : w ≤ 6) (t a b : Int32) (x y : Nat) (hx : x < 2 ^ w) (hy : y < 2 ^ w) (h : post (nI (dg_val w 14 x y))) : wpX_outcome post (nI w, nI (2 ^ w - 1), t, a, b) (nI 14) (nI x) (nI y) := by
  have hp := dg_p6 w h6
  have hx2 := dg_xx h2 hx
  have hy2 := dg_xx h2 hy
  unfold wpX_outcome
  refine nm_r (e' := nI (2 ^ (w - 1))) (by rw [dg_pred (by omega)]; exact dg_1s (w - 1) (by omega)) ?_
  rw [nx_xor, nx_xor]
  refine dg_belW _ _ _ _ _ _ _ _ (by omega) (by omega) (dg_belW _ _ _ _ _ _ _ _ (by omega) (by omega) (dg_amW _ w h2 h6 _ _ _ _ y hy ?_))
  refine br_f (by decide) (br_f (by decide) (br_f (by decide) (br_f (by decide) (br_f (by decide) (br_f (by decide) (br_f (by decide) (br_f (by decide) (br_f (by decide) (br_f (by decide) (br_f (by decide) (br_f (by decide) (br_f (by decide) (br_f (by decide) (br_f (by decide) (br_f (by decide) (br_t (by decide) (?_)))))))))))))))))
  exact dg_abW _ w h2 h6 _ _ _ x hx h
theorem dg_o15 (post : Int32 → Prop) (w : Nat) (h2 : 2 ≤ w) (h6 : w ≤ 6) (t a b : Int32) (x y : Nat) (hx : x < 2 ^ w) (hy : y < 2 ^ w) (h : post (nI (dg_val w 15 x y))) : wpX_outcome post (nI w, nI (2 ^ w - 1), t, a, b) (nI 15) (nI x) (nI y) := by
  have hp := dg_p6 w h6
  have hx2 := dg_xx h2 hx
  have hy2 := dg_xx h2 hy
  unfold wpX_outcome
  refine nm_r (e' := nI (2 ^ (w - 1))) (by rw [dg_pred (by omega)]; exact dg_1s (w - 1) (by omega)) ?_
  rw [nx_xor, nx_xor]
  refine dg_belW _ _ _ _ _ _ _ _ (by omega) (by omega) (dg_belW _ _ _ _ _ _ _ _ (by omega) (by omega) (dg_amW _ w h2 h6 _ _ _ _ y hy ?_))
  refine br_f (by decide) (br_f (by decide) (br_f (by decide) (br_f (by decide) (br_f (by decide) (br_f (by decide) (br_f (by decide) (br_f (by decide) (br_f (by decide) (br_f (by decide) (br_f (by decide) (br_f (by decide) (br_f (by decide) (br_f (by decide) (br_f (by decide) (br_f (by decide) (br_f (by decide) (br_t (by decide) (?_))))))))))))))))))
  exact dg_sumW _ _ _ _ _ _ x y 0 (by decide) (dg_at (P := post) ((pk_shrN (by omega) _ 1 (by decide)).trans (congrArg nI (by show _ = (x + y) / 2; omega))) h)
theorem dg_X (post : Int32 → Prop) (w : Nat) (h2 : 2 ≤ w) (h6 : w ≤ 6) (t a b : Int32) (op x y : Nat) (ho : op < 16) (hx : x < 2 ^ w) (hy : y < 2 ^ w) (h : post (nI (dg_val w op x y))) : wpX_outcome post (nI w, nI (2 ^ w - 1), t, a, b) (nI op) (nI x) (nI y) := by
  have hc : op = 0 ∨ op = 1 ∨ op = 2 ∨ op = 3 ∨ op = 4 ∨ op = 5 ∨ op = 6 ∨ op = 7 ∨ op = 8 ∨ op = 9 ∨ op = 10 ∨ op = 11 ∨ op = 12 ∨ op = 13 ∨ op = 14 ∨ op = 15 := by omega
  rcases hc with rfl | rfl | rfl | rfl | rfl | rfl | rfl | rfl | rfl | rfl | rfl | rfl | rfl | rfl | rfl | rfl
  · exact dg_o0 post w h2 h6 t a b x y hx hy h
  · exact dg_o1 post w h2 h6 t a b x y hx hy h
  · exact dg_o2 post w h2 h6 t a b x y hx hy h
  · exact dg_o3 post w h2 h6 t a b x y hx hy h
  · exact dg_o4 post w h2 h6 t a b x y hx hy h
  · exact dg_o5 post w h2 h6 t a b x y hx hy h
  · exact dg_o6 post w h2 h6 t a b x y hx hy h
  · exact dg_o7 post w h2 h6 t a b x y hx hy h
  · exact dg_o8 post w h2 h6 t a b x y hx hy h
  · exact dg_o9 post w h2 h6 t a b x y hx hy h
  · exact dg_o10 post w h2 h6 t a b x y hx hy h
  · exact dg_o11 post w h2 h6 t a b x y hx hy h
  · exact dg_o12 post w h2 h6 t a b x y hx hy h
  · exact dg_o13 post w h2 h6 t a b x y hx hy h
  · exact dg_o14 post w h2 h6 t a b x y hx hy h
  · exact dg_o15 post w h2 h6 t a b x y hx hy h
end
section
/-! the reference's small walks -/
theorem dg_szW (post : Int32 → Prop) (w : Nat) (h6 : w ≤ 6) (f s : Int32) (h : post (nI (2 ^ w))) : wpY_size post (nI w, f, s) := dg_at (P := post) (dg_1s w (by omega)) h
theorem dg_s0 {w : Nat} (h6 : w ≤ 6) : ¬ nI (2 ^ w) = 0 := nI_ne0 (Nat.two_pow_pos w) (by have := dg_p6 w h6; omega)
def dg_fix (S z : Int32) : Int32 := ((z - z / S * S) + S) - ((z - z / S * S) + S) / S * S
theorem dg_w44 (post : Int32 → Prop) (w : Nat) (h6 : w ≤ 6) (f s z : Int32) (v : Nat) (e : dg_fix (nI (2 ^ w)) z = nI v) (h : post (nI v)) : wY_work_44 post z (nI w) f s := by
  unfold wY_work_44
  exact dg_szW _ w h6 f s ⟨dg_s0 h6, dg_szW _ w h6 f s (dg_szW _ w h6 f s ⟨dg_s0 h6, dg_at (P := post) e h⟩)⟩
theorem dg_fixN {w v : Nat} (h6 : w ≤ 6) (hv : v < 2 ^ 30) : dg_fix (nI (2 ^ w)) (nI v) = nI (v % 2 ^ w) := by
  have hp := dg_p6 w h6
  have h0 := Nat.two_pow_pos w
  have hm := Nat.mod_lt v h0
  unfold dg_fix
  rw [pk_rem (by omega) h0 (by omega), nI_add, pk_rem (by omega) h0 (by omega), Nat.add_mod_right, Nat.mod_mod]
theorem dg_fixM : ∀ w, w < 7 → ∀ x, x < 2 ^ w → ∀ y, y < 2 ^ w → dg_fix (nI (2 ^ w)) (nI x - nI y) = nI ((x + (65536 - y)) % 65536 % 2 ^ w) := by decide +kernel
def dg_sg (w x : Nat) : Int32 := if 2 ^ (w - 1) ≤ x then nI x - nI (2 ^ w) else nI x
theorem dg_half {w : Nat} (h2 : 2 ≤ w) (h6 : w ≤ 6) : nI (2 ^ w) / 2 = nI (2 ^ (w - 1)) := by
  have hp := dg_p6 w h6
  have hq := dg_pp w (by omega)
  exact (pk_div (a := 2 ^ w) (d := 2) (by omega) (by decide) (by decide)).trans (congrArg nI (by omega))
theorem dg_sdW (post : Int32 → Prop) (w : Nat) (h2 : 2 ≤ w) (h6 : w ≤ 6) (f s : Int32) (x : Nat) (hx : x < 2 ^ w) (h : post (dg_sg w x)) : wpY_signed post (nI w, f, s) (nI x) := by
  unfold wpY_signed
  have hp := dg_p6 w h6
  have hq := dg_pp w (by omega)
  refine dg_szW _ w h6 f s ⟨by decide, ?_⟩
  rw [dg_half h2 h6]
  unfold dg_sg at h
  by_cases z : 2 ^ (w - 1) ≤ x
  · rw [if_pos z] at h
    exact br_t (nI_le z (by omega)) (dg_szW _ w h6 f s h)
  · rw [if_neg z] at h
    exact br_f (nI_ge (by omega) (by omega)) h
/-! signed order, by tables -/
theorem dg_t5 : ∀ w, w < 7 → 2 ≤ w → ∀ x, x < 2 ^ w → ∀ y, y < 2 ^ w → dg_val w 5 x y = if dg_sg w y ≤ dg_sg w x then 0 else 1 := by decide +kernel
theorem dg_t11 : ∀ w, w < 7 → 2 ≤ w → ∀ x, x < 2 ^ w → ∀ y, y < 2 ^ w → dg_val w 11 x y = if dg_sg w x ≤ dg_sg w y then y else x := by decide +kernel
theorem dg_t14 : ∀ w, w < 7 → 2 ≤ w → ∀ x, x < 2 ^ w → (0 ≤ dg_sg w x → dg_ab w x = x) ∧ (¬ 0 ≤ dg_sg w x → dg_fix (nI (2 ^ w)) (0 - dg_sg w x) = nI (dg_ab w x)) := by decide +kernel
/-! shifts, a turn at a time -/
def dg_tp (w v : Nat) : Nat := if v < 2 ^ (w - 1) then 0 else 1
def dg_st (w k v : Nat) : Nat := match k with
  | 6 => v * 2 % 2 ^ w
  | 7 => v / 2
  | 8 => v / 2 + dg_tp w v * 2 ^ (w - 1)
  | _ => v * 2 % 2 ^ w + dg_tp w v
def dg_it (w k : Nat) : Nat → Nat → Nat
  | 0, v => v
  | d + 1, v => dg_it w k d (dg_st w k v)
theorem dg_stB : ∀ w, w < 7 → 2 ≤ w → ∀ v, v < 2 ^ w → ∀ k, k < 10 → dg_st w k v < 2 ^ w := by decide +kernel
theorem dg_it6 : ∀ w, w < 7 → 2 ≤ w → ∀ x, x < 2 ^ w → ∀ n, n < w → dg_it w 6 n x < 64 ∧ dg_it w 6 n x % 2 ^ w = x * 2 ^ n % 2 ^ w := by decide +kernel
theorem dg_it7 : ∀ w, w < 7 → 2 ≤ w → ∀ x, x < 2 ^ w → ∀ n, n < w → dg_it w 7 n x < 64 ∧ dg_it w 7 n x % 2 ^ w = x / 2 ^ n := by decide +kernel
theorem dg_it8 : ∀ w, w < 7 → 2 ≤ w → ∀ x, x < 2 ^ w → ∀ n, n < w → dg_it w 8 n x < 64 ∧ dg_it w 8 n x % 2 ^ w = (x ||| dg_hi w x) / 2 ^ n % 2 ^ w := by decide +kernel
theorem dg_it9 : ∀ w, w < 7 → 2 ≤ w → ∀ x, x < 2 ^ w → ∀ n, n < w → dg_it w 9 n x < 64 ∧ dg_it w 9 n x % 2 ^ w = (x * 2 ^ n ||| x * 2 ^ n / 2 ^ w) % 2 ^ w := by decide +kernel
theorem dg_dbl {w v : Nat} (h6 : w ≤ 6) (hv : v < 2 ^ w) : nI v * 2 - nI v * 2 / nI (2 ^ w) * nI (2 ^ w) = nI (v * 2 % 2 ^ w) := by
  have hp := dg_p6 w h6
  rw [show nI v * 2 = nI (v * 2) from pk_mul v 2]
  exact pk_rem (by omega) (Nat.two_pow_pos w) (by omega)
theorem dg_hf {v : Nat} (hv : v < 2 ^ 31) : nI v / 2 = nI (v / 2) := pk_div (d := 2) hv (by decide) (by decide)
theorem dg_28_6 (post : Int32 → Prop) (J : Int32 → Int32 → Prop) (w : Nat) (h6 : w ≤ 6) (f s c : Int32) (v q i : Nat) (hv : v < 2 ^ w) (h : J (nI (v * 2 % 2 ^ w)) (nI (i + 1))) : wY_shifts_28 post J (nI 6) c (nI v) (nI i) (nI q) (nI w) f s := by
  unfold wY_shifts_28
  exact br_t (by decide) (dg_szW _ w h6 f s ⟨dg_s0 h6, nm_r (dg_dbl h6 hv) (br_f (by decide) (br_f (by decide) (br_f (by decide) (nm_r (nI_1 i) h))))⟩)
theorem dg_28_7 (post : Int32 → Prop) (J : Int32 → Int32 → Prop) (w : Nat) (h6 : w ≤ 6) (f s c : Int32) (v q i : Nat) (hv : v < 2 ^ w) (h : J (nI (v / 2)) (nI (i + 1))) : wY_shifts_28 post J (nI 7) c (nI v) (nI i) (nI q) (nI w) f s := by
  have hp := dg_p6 w h6
  unfold wY_shifts_28
  exact br_f (by decide) (br_t (by decide) ⟨by decide, nm_r (dg_hf (by omega)) (br_f (by decide) (br_f (by decide) (nm_r (nI_1 i) h)))⟩)
theorem dg_28_8 (post : Int32 → Prop) (J : Int32 → Int32 → Prop) (w : Nat) (h2 : 2 ≤ w) (h6 : w ≤ 6) (f s c : Int32) (v q i : Nat) (hv : v < 2 ^ w) (h : J (nI (v / 2 + q * 2 ^ (w - 1))) (nI (i + 1))) : wY_shifts_28 post J (nI 8) c (nI v) (nI i) (nI q) (nI w) f s := by
  have hp := dg_p6 w h6
  unfold wY_shifts_28
  exact br_f (by decide) (br_f (by decide) (br_t (by decide) ⟨by decide, dg_szW _ w h6 f s ⟨by decide, nm_r (by rw [dg_half h2 h6, dg_hf (by omega), pk_mul, nI_add]) (br_f (by decide) (nm_r (nI_1 i) h))⟩⟩))
theorem dg_28_9 (post : Int32 → Prop) (J : Int32 → Int32 → Prop) (w : Nat) (h6 : w ≤ 6) (f s c : Int32) (v q i : Nat) (hv : v < 2 ^ w) (h : J (nI (v * 2 % 2 ^ w + q)) (nI (i + 1))) : wY_shifts_28 post J (nI 9) c (nI v) (nI i) (nI q) (nI w) f s := by
  unfold wY_shifts_28
  exact br_f (by decide) (br_f (by decide) (br_f (by decide) (br_t (by decide) (dg_szW _ w h6 f s ⟨dg_s0 h6, nm_r (by rw [dg_dbl h6 hv, nI_add]) (nm_r (nI_1 i) h)⟩))))
end
section
/-! the shifts' loop, by operation -/
theorem dg_shL6 (post : Int32 → Prop) (w : Nat) (h2 : 2 ≤ w) (h6 : w ≤ 6) (f s : Int32) (n : Nat) (hn : n < 2 ^ 31) : ∀ d i v, i + d = n → v < 2 ^ w → post (nI (dg_it w 6 d v)) → wY_shifts_6 post (nI 6) (nI n) (nI w) f s (d + 1) (nI v) (nI i) := by
  have hp := dg_p6 w h6
  have hq := dg_pp w (by omega)
  intro d
  induction d with
  | zero =>
    intro i v hi _ h
    obtain rfl : i = n := by omega
    exact br_t (nI_le (Nat.le_refl _) hn) h
  | succ d ih =>
    intro i v hi hv h
    have h' : post (nI (dg_it w 6 d (dg_st w 6 v))) := h
    have hb := dg_stB w (by omega) h2 v hv 6 (by decide)
    refine br_f (nI_ge (by omega) hn) (dg_szW _ w h6 f s ⟨by decide, ?_⟩)
    rw [dg_half h2 h6]
    have J := ih (i + 1) (dg_st w 6 v) (by omega) hb h'
    by_cases z : v < 2 ^ (w - 1)
    · have e : dg_tp w v = 0 := if_pos z
      simp only [dg_st, e] at J
      exact br_t (nI_lt z (by omega)) (dg_28_6 post _ w h6 f s _ v 0 i hv J)
    · have e : dg_tp w v = 1 := if_neg z
      simp only [dg_st, e] at J
      exact br_f (nI_nlt (by omega) (by omega)) (dg_28_6 post _ w h6 f s _ v 1 i hv J)
theorem dg_shL7 (post : Int32 → Prop) (w : Nat) (h2 : 2 ≤ w) (h6 : w ≤ 6) (f s : Int32) (n : Nat) (hn : n < 2 ^ 31) : ∀ d i v, i + d = n → v < 2 ^ w → post (nI (dg_it w 7 d v)) → wY_shifts_6 post (nI 7) (nI n) (nI w) f s (d + 1) (nI v) (nI i) := by
  have hp := dg_p6 w h6
  have hq := dg_pp w (by omega)
  intro d
  induction d with
  | zero =>
    intro i v hi _ h
    obtain rfl : i = n := by omega
    exact br_t (nI_le (Nat.le_refl _) hn) h
  | succ d ih =>
    intro i v hi hv h
    have h' : post (nI (dg_it w 7 d (dg_st w 7 v))) := h
    have hb := dg_stB w (by omega) h2 v hv 7 (by decide)
    refine br_f (nI_ge (by omega) hn) (dg_szW _ w h6 f s ⟨by decide, ?_⟩)
    rw [dg_half h2 h6]
    have J := ih (i + 1) (dg_st w 7 v) (by omega) hb h'
    by_cases z : v < 2 ^ (w - 1)
    · have e : dg_tp w v = 0 := if_pos z
      simp only [dg_st, e] at J
      exact br_t (nI_lt z (by omega)) (dg_28_7 post _ w h6 f s _ v 0 i hv J)
    · have e : dg_tp w v = 1 := if_neg z
      simp only [dg_st, e] at J
      exact br_f (nI_nlt (by omega) (by omega)) (dg_28_7 post _ w h6 f s _ v 1 i hv J)
theorem dg_shL8 (post : Int32 → Prop) (w : Nat) (h2 : 2 ≤ w) (h6 : w ≤ 6) (f s : Int32) (n : Nat) (hn : n < 2 ^ 31) : ∀ d i v, i + d = n → v < 2 ^ w → post (nI (dg_it w 8 d v)) → wY_shifts_6 post (nI 8) (nI n) (nI w) f s (d + 1) (nI v) (nI i) := by
  have hp := dg_p6 w h6
  have hq := dg_pp w (by omega)
  intro d
  induction d with
  | zero =>
    intro i v hi _ h
    obtain rfl : i = n := by omega
    exact br_t (nI_le (Nat.le_refl _) hn) h
  | succ d ih =>
    intro i v hi hv h
    have h' : post (nI (dg_it w 8 d (dg_st w 8 v))) := h
    have hb := dg_stB w (by omega) h2 v hv 8 (by decide)
    refine br_f (nI_ge (by omega) hn) (dg_szW _ w h6 f s ⟨by decide, ?_⟩)
    rw [dg_half h2 h6]
    have J := ih (i + 1) (dg_st w 8 v) (by omega) hb h'
    by_cases z : v < 2 ^ (w - 1)
    · have e : dg_tp w v = 0 := if_pos z
      simp only [dg_st, e] at J
      exact br_t (nI_lt z (by omega)) (dg_28_8 post _ w h2 h6 f s _ v 0 i hv J)
    · have e : dg_tp w v = 1 := if_neg z
      simp only [dg_st, e] at J
      exact br_f (nI_nlt (by omega) (by omega)) (dg_28_8 post _ w h2 h6 f s _ v 1 i hv J)
theorem dg_shL9 (post : Int32 → Prop) (w : Nat) (h2 : 2 ≤ w) (h6 : w ≤ 6) (f s : Int32) (n : Nat) (hn : n < 2 ^ 31) : ∀ d i v, i + d = n → v < 2 ^ w → post (nI (dg_it w 9 d v)) → wY_shifts_6 post (nI 9) (nI n) (nI w) f s (d + 1) (nI v) (nI i) := by
  have hp := dg_p6 w h6
  have hq := dg_pp w (by omega)
  intro d
  induction d with
  | zero =>
    intro i v hi _ h
    obtain rfl : i = n := by omega
    exact br_t (nI_le (Nat.le_refl _) hn) h
  | succ d ih =>
    intro i v hi hv h
    have h' : post (nI (dg_it w 9 d (dg_st w 9 v))) := h
    have hb := dg_stB w (by omega) h2 v hv 9 (by decide)
    refine br_f (nI_ge (by omega) hn) (dg_szW _ w h6 f s ⟨by decide, ?_⟩)
    rw [dg_half h2 h6]
    have J := ih (i + 1) (dg_st w 9 v) (by omega) hb h'
    by_cases z : v < 2 ^ (w - 1)
    · have e : dg_tp w v = 0 := if_pos z
      simp only [dg_st, e] at J
      exact br_t (nI_lt z (by omega)) (dg_28_9 post _ w h6 f s _ v 0 i hv J)
    · have e : dg_tp w v = 1 := if_neg z
      simp only [dg_st, e] at J
      exact br_f (nI_nlt (by omega) (by omega)) (dg_28_9 post _ w h6 f s _ v 1 i hv J)
/-! ones and zeros, from below -/
def dg_yo (x : Nat) : Nat → Nat → Nat → Nat
  | 0, _, o => o
  | d + 1, i, o => dg_yo x d (i + 1) (if x / 2 ^ i % 2 = 1 then o + 1 else o)
def dg_yz (x : Nat) : Nat → Nat → Nat → Nat
  | 0, _, z => z
  | d + 1, i, z => dg_yz x d (i + 1) (if x / 2 ^ i % 2 = 1 then 0 else z + 1)
theorem dg_t12 : ∀ w, w < 7 → 2 ≤ w → ∀ x, x < 2 ^ w → dg_yo x w 0 0 < 64 ∧ dg_yo x w 0 0 % 2 ^ w = dg_on x w 0 0 % 2 ^ w := by decide +kernel
theorem dg_t13 : ∀ w, w < 7 → 2 ≤ w → ∀ x, x < 2 ^ w → dg_yz x w 0 0 < 64 ∧ dg_yz x w 0 0 % 2 ^ w = dg_ze x w 0 1 % 2 ^ w := by decide +kernel
theorem dg_115_1 (post : Int32 → Prop) (J : Int32 → Int32 → Int32 → Prop) (k x w f s : Int32) (o z i : Nat) (h : J (nI (o + 1)) (nI 0) (nI (i + 1))) : wY_others_115 post J k x (nI o) (nI z) (nI i) 1 w f s :=
  br_f (by decide) (nm_r (nI_1 o) (br_f (by decide) (nm_r (nI_1 i) h)))
theorem dg_115_0 (post : Int32 → Prop) (J : Int32 → Int32 → Int32 → Prop) (k x w f s : Int32) (o z i : Nat) (h : J (nI o) (nI (z + 1)) (nI (i + 1))) : wY_others_115 post J k x (nI o) (nI z) (nI i) 0 w f s :=
  br_t (by decide) (br_t (by decide) (nm_r (nI_1 z) (nm_r (nI_1 i) h)))
theorem dg_otL12 (post : Int32 → Prop) (w : Nat) (h6 : w ≤ 6) (f s : Int32) (x : Nat) (hx : x < 2 ^ w) : ∀ d i o z, i + d = w → post (nI (dg_yo x d i o)) → wY_others_89 post (nI 12) (nI x) (nI w) f s (d + 1) (nI o) (nI z) (nI i) := by
  have hp := dg_p6 w h6
  intro d
  induction d with
  | zero =>
    intro i o z hi h
    obtain rfl : i = w := by omega
    exact br_t (nI_le (Nat.le_refl _) (by omega)) (br_t (by decide) h)
  | succ d ih =>
    intro i o z hi h
    have h' : post (nI (dg_yo x d (i + 1) (if x / 2 ^ i % 2 = 1 then o + 1 else o))) := h
    have hi6 := dg_p6 i (by omega)
    have hi0 := Nat.two_pow_pos i
    have hd : x / 2 ^ i ≤ x := Nat.div_le_self _ _
    have e : nI x / nI (2 ^ i) = nI (x / 2 ^ i) := pk_div (by omega) hi0 (by omega)
    have e2 : nI (x / 2 ^ i) - nI (x / 2 ^ i) / 2 * 2 = nI (x / 2 ^ i % 2) := pk_rem (d := 2) (by omega) (by decide) (by decide)
    refine br_f (nI_ge (by omega) (by omega)) ?_
    rw [dg_1s i (by omega), e, e2]
    refine ⟨nI_ne0 hi0 (by omega), by decide, ?_⟩
    by_cases q : x / 2 ^ i % 2 = 1
    · rw [if_pos q] at h'
      rw [q]
      exact br_t rfl (dg_115_1 post _ _ _ _ _ _ o z i (ih (i + 1) _ _ (by omega) h'))
    · rw [if_neg q] at h'
      rw [show x / 2 ^ i % 2 = 0 by omega]
      exact br_f (by decide) (dg_115_0 post _ _ _ _ _ _ o z i (ih (i + 1) _ _ (by omega) h'))
theorem dg_otL13 (post : Int32 → Prop) (w : Nat) (h6 : w ≤ 6) (f s : Int32) (x : Nat) (hx : x < 2 ^ w) : ∀ d i o z, i + d = w → post (nI (dg_yz x d i z)) → wY_others_89 post (nI 13) (nI x) (nI w) f s (d + 1) (nI o) (nI z) (nI i) := by
  have hp := dg_p6 w h6
  intro d
  induction d with
  | zero =>
    intro i o z hi h
    obtain rfl : i = w := by omega
    exact br_t (nI_le (Nat.le_refl _) (by omega)) (br_f (by decide) h)
  | succ d ih =>
    intro i o z hi h
    have h' : post (nI (dg_yz x d (i + 1) (if x / 2 ^ i % 2 = 1 then 0 else z + 1))) := h
    have hi6 := dg_p6 i (by omega)
    have hi0 := Nat.two_pow_pos i
    have hd : x / 2 ^ i ≤ x := Nat.div_le_self _ _
    have e : nI x / nI (2 ^ i) = nI (x / 2 ^ i) := pk_div (by omega) hi0 (by omega)
    have e2 : nI (x / 2 ^ i) - nI (x / 2 ^ i) / 2 * 2 = nI (x / 2 ^ i % 2) := pk_rem (d := 2) (by omega) (by decide) (by decide)
    refine br_f (nI_ge (by omega) (by omega)) ?_
    rw [dg_1s i (by omega), e, e2]
    refine ⟨nI_ne0 hi0 (by omega), by decide, ?_⟩
    by_cases q : x / 2 ^ i % 2 = 1
    · rw [if_pos q] at h'
      rw [q]
      exact br_t rfl (dg_115_1 post _ _ _ _ _ _ o z i (ih (i + 1) _ _ (by omega) h'))
    · rw [if_neg q] at h'
      rw [show x / 2 ^ i % 2 = 0 by omega]
      exact br_f (by decide) (dg_115_0 post _ _ _ _ _ _ o z i (ih (i + 1) _ _ (by omega) h'))
theorem dg_y0 (post : Int32 → Prop) (w : Nat) (h2 : 2 ≤ w) (h6 : w ≤ 6) (f s : Int32) (x y : Nat) (hx : x < 2 ^ w) (hy : y < 2 ^ w) (h : post (nI (dg_val w 0 x y))) : wpY_work post (nI w, f, s) (nI 0) (nI x) (nI y) := by
  have hp := dg_p6 w h6
  unfold wpY_work
  exact br_f (by decide) (br_t (by decide) (dg_w44 post w h6 f s _ _ (by rw [nI_add]; exact dg_fixN h6 (by omega)) h))
theorem dg_y1 (post : Int32 → Prop) (w : Nat) (h2 : 2 ≤ w) (h6 : w ≤ 6) (f s : Int32) (x y : Nat) (hx : x < 2 ^ w) (hy : y < 2 ^ w) (h : post (nI (dg_val w 1 x y))) : wpY_work post (nI w, f, s) (nI 1) (nI x) (nI y) := by
  have hp := dg_p6 w h6
  unfold wpY_work
  exact br_f (by decide) (br_f (by decide) (br_t (by decide) (dg_w44 post w h6 f s _ _ (dg_fixM w (by omega) x hx y hy) h)))
theorem dg_y2 (post : Int32 → Prop) (w : Nat) (h2 : 2 ≤ w) (h6 : w ≤ 6) (f s : Int32) (x y : Nat) (hx : x < 2 ^ w) (hy : y < 2 ^ w) (h : post (nI (dg_val w 2 x y))) : wpY_work post (nI w, f, s) (nI 2) (nI x) (nI y) := by
  have hp := dg_p6 w h6
  have hxy := dg_xy h6 hx hy
  unfold wpY_work
  exact br_f (by decide) (br_f (by decide) (br_f (by decide) (br_t (by decide) (dg_w44 post w h6 f s _ _ (by rw [pk_mul]; exact dg_fixN h6 (by omega)) h))))
theorem dg_y3 (post : Int32 → Prop) (w : Nat) (h2 : 2 ≤ w) (h6 : w ≤ 6) (f s : Int32) (x y : Nat) (hx : x < 2 ^ w) (hy : y < 2 ^ w) (h : post (nI (dg_val w 3 x y))) : wpY_work post (nI w, f, s) (nI 3) (nI x) (nI y) := by
  have hp := dg_p6 w h6
  have hxy := dg_xy h6 hx hy
  have hdv : x * y / 2 ^ w ≤ x * y := Nat.div_le_self _ _
  unfold wpY_work
  exact br_f (by decide) (br_f (by decide) (br_f (by decide) (br_f (by decide) (br_t (by decide) (dg_szW _ w h6 f s ⟨dg_s0 h6, dg_w44 post w h6 f s _ _ (by rw [pk_mul, pk_div (by omega) (Nat.two_pow_pos w) (by omega), dg_fixN h6 (by omega)]; exact congrArg nI (Nat.mod_eq_of_lt (Nat.div_lt_of_lt_mul (Nat.mul_lt_mul'' hx hy)))) h⟩)))))
theorem dg_y4 (post : Int32 → Prop) (w : Nat) (h2 : 2 ≤ w) (h6 : w ≤ 6) (f s : Int32) (x y : Nat) (hx : x < 2 ^ w) (hy : y < 2 ^ w) (h : post (nI (dg_val w 4 x y))) : wpY_work post (nI w, f, s) (nI 4) (nI x) (nI y) := by
  have hp := dg_p6 w h6
  have hp2 := dg_p2 w h2
  unfold wpY_work
  have h' : post (nI (dg_lt x y)) := h
  unfold dg_lt at h'
  refine br_f (by decide) (br_f (by decide) (br_f (by decide) (br_f (by decide) (br_f (by decide) (br_t (by decide) (pk_le y x (fun z => ?_) (fun z => ?_)))))))
  · rw [if_neg (by omega)] at h'
    exact dg_w44 post w h6 f s _ 0 ((dg_fixN (v := 0) h6 (by decide)).trans (congrArg nI (Nat.zero_mod _))) h'
  · rw [if_pos z] at h'
    exact dg_w44 post w h6 f s _ 1 ((dg_fixN (v := 1) h6 (by decide)).trans (congrArg nI (Nat.mod_eq_of_lt (by omega)))) h'
theorem dg_y5 (post : Int32 → Prop) (w : Nat) (h2 : 2 ≤ w) (h6 : w ≤ 6) (f s : Int32) (x y : Nat) (hx : x < 2 ^ w) (hy : y < 2 ^ w) (h : post (nI (dg_val w 5 x y))) : wpY_work post (nI w, f, s) (nI 5) (nI x) (nI y) := by
  have hp2 := dg_p2 w h2
  unfold wpY_work
  have ht := dg_t5 w (by omega) h2 x hx y hy
  refine br_f (by decide) (br_f (by decide) (br_f (by decide) (br_f (by decide) (br_f (by decide) (br_f (by decide) (dg_sdW _ w h2 h6 f s x hx (dg_sdW _ w h2 h6 f s y hy (br_c (fun z => ?_) (fun z => ?_)))))))))
  · rw [ht, if_pos z] at h
    exact dg_w44 post w h6 f s _ 0 ((dg_fixN (v := 0) h6 (by decide)).trans (congrArg nI (Nat.zero_mod _))) h
  · rw [ht, if_neg z] at h
    exact dg_w44 post w h6 f s _ 1 ((dg_fixN (v := 1) h6 (by decide)).trans (congrArg nI (Nat.mod_eq_of_lt (by omega)))) h
theorem dg_y6 (post : Int32 → Prop) (w : Nat) (h2 : 2 ≤ w) (h6 : w ≤ 6) (f s : Int32) (x y : Nat) (hx : x < 2 ^ w) (hy : y < 2 ^ w) (h : post (nI (dg_val w 6 x y))) : wpY_work post (nI w, f, s) (nI 6) (nI x) (nI y) := by
  have hp := dg_p6 w h6
  have hw0 : 0 < w := by omega
  have hm := Nat.mod_lt y hw0
  unfold wpY_work
  have ht := dg_it6 w (by omega) h2 x hx (y % w) hm
  refine br_t (by decide) (br_f (by decide) ⟨nI_ne0 hw0 (by omega), ?_⟩)
  rw [pk_rem (by omega) hw0 (by omega)]
  refine ⟨y % w + 1, dg_shL6 _ w h2 h6 f s (y % w) (by omega) (y % w) 0 x (by omega) hx ?_⟩
  exact dg_w44 post w h6 f s _ _ ((dg_fixN h6 (by omega)).trans (congrArg nI ht.2)) h
theorem dg_y7 (post : Int32 → Prop) (w : Nat) (h2 : 2 ≤ w) (h6 : w ≤ 6) (f s : Int32) (x y : Nat) (hx : x < 2 ^ w) (hy : y < 2 ^ w) (h : post (nI (dg_val w 7 x y))) : wpY_work post (nI w, f, s) (nI 7) (nI x) (nI y) := by
  have hp := dg_p6 w h6
  have hw0 : 0 < w := by omega
  have hm := Nat.mod_lt y hw0
  unfold wpY_work
  have ht := dg_it7 w (by omega) h2 x hx (y % w) hm
  refine br_t (by decide) (br_f (by decide) ⟨nI_ne0 hw0 (by omega), ?_⟩)
  rw [pk_rem (by omega) hw0 (by omega)]
  refine ⟨y % w + 1, dg_shL7 _ w h2 h6 f s (y % w) (by omega) (y % w) 0 x (by omega) hx ?_⟩
  exact dg_w44 post w h6 f s _ _ ((dg_fixN h6 (by omega)).trans (congrArg nI ht.2)) h
theorem dg_y8 (post : Int32 → Prop) (w : Nat) (h2 : 2 ≤ w) (h6 : w ≤ 6) (f s : Int32) (x y : Nat) (hx : x < 2 ^ w) (hy : y < 2 ^ w) (h : post (nI (dg_val w 8 x y))) : wpY_work post (nI w, f, s) (nI 8) (nI x) (nI y) := by
  have hp := dg_p6 w h6
  have hw0 : 0 < w := by omega
  have hm := Nat.mod_lt y hw0
  unfold wpY_work
  have ht := dg_it8 w (by omega) h2 x hx (y % w) hm
  refine br_t (by decide) (br_f (by decide) ⟨nI_ne0 hw0 (by omega), ?_⟩)
  rw [pk_rem (by omega) hw0 (by omega)]
  refine ⟨y % w + 1, dg_shL8 _ w h2 h6 f s (y % w) (by omega) (y % w) 0 x (by omega) hx ?_⟩
  exact dg_w44 post w h6 f s _ _ ((dg_fixN h6 (by omega)).trans (congrArg nI ht.2)) h
theorem dg_y9 (post : Int32 → Prop) (w : Nat) (h2 : 2 ≤ w) (h6 : w ≤ 6) (f s : Int32) (x y : Nat) (hx : x < 2 ^ w) (hy : y < 2 ^ w) (h : post (nI (dg_val w 9 x y))) : wpY_work post (nI w, f, s) (nI 9) (nI x) (nI y) := by
  have hp := dg_p6 w h6
  have hw0 : 0 < w := by omega
  have hm := Nat.mod_lt y hw0
  unfold wpY_work
  have ht := dg_it9 w (by omega) h2 x hx (y % w) hm
  refine br_t (by decide) (br_f (by decide) ⟨nI_ne0 hw0 (by omega), ?_⟩)
  rw [pk_rem (by omega) hw0 (by omega)]
  refine ⟨y % w + 1, dg_shL9 _ w h2 h6 f s (y % w) (by omega) (y % w) 0 x (by omega) hx ?_⟩
  exact dg_w44 post w h6 f s _ _ ((dg_fixN h6 (by omega)).trans (congrArg nI ht.2)) h
theorem dg_y10 (post : Int32 → Prop) (w : Nat) (h2 : 2 ≤ w) (h6 : w ≤ 6) (f s : Int32) (x y : Nat) (hx : x < 2 ^ w) (hy : y < 2 ^ w) (h : post (nI (dg_val w 10 x y))) : wpY_work post (nI w, f, s) (nI 10) (nI x) (nI y) := by
  have hp := dg_p6 w h6
  unfold wpY_work
  have h' : post (nI (if dg_lt x y = 1 then x else y)) := h
  refine br_t (by decide) (br_t (by decide) (br_t (by decide) (pk_le y x (fun z => ?_) (fun z => ?_))))
  · rw [show dg_lt x y = 0 from if_neg (by omega), if_neg (by decide)] at h'
    exact dg_w44 post w h6 f s _ y ((dg_fixN h6 (by omega)).trans (congrArg nI (Nat.mod_eq_of_lt hy))) h'
  · rw [show dg_lt x y = 1 from if_pos z, if_pos rfl] at h'
    exact dg_w44 post w h6 f s _ x ((dg_fixN h6 (by omega)).trans (congrArg nI (Nat.mod_eq_of_lt hx))) h'
theorem dg_y11 (post : Int32 → Prop) (w : Nat) (h2 : 2 ≤ w) (h6 : w ≤ 6) (f s : Int32) (x y : Nat) (hx : x < 2 ^ w) (hy : y < 2 ^ w) (h : post (nI (dg_val w 11 x y))) : wpY_work post (nI w, f, s) (nI 11) (nI x) (nI y) := by
  have hp := dg_p6 w h6
  unfold wpY_work
  have ht := dg_t11 w (by omega) h2 x hx y hy
  refine br_t (by decide) (br_t (by decide) (br_f (by decide) (br_t (by decide) (dg_sdW _ w h2 h6 f s x hx (dg_sdW _ w h2 h6 f s y hy (br_c (fun z => ?_) (fun z => ?_)))))))
  · rw [ht, if_pos z] at h
    exact dg_w44 post w h6 f s _ y ((dg_fixN h6 (by omega)).trans (congrArg nI (Nat.mod_eq_of_lt hy))) h
  · rw [ht, if_neg z] at h
    exact dg_w44 post w h6 f s _ x ((dg_fixN h6 (by omega)).trans (congrArg nI (Nat.mod_eq_of_lt hx))) h
theorem dg_y12 (post : Int32 → Prop) (w : Nat) (h2 : 2 ≤ w) (h6 : w ≤ 6) (f s : Int32) (x y : Nat) (hx : x < 2 ^ w) (hy : y < 2 ^ w) (h : post (nI (dg_val w 12 x y))) : wpY_work post (nI w, f, s) (nI 12) (nI x) (nI y) := by
  unfold wpY_work
  have ht := dg_t12 w (by omega) h2 x hx
  refine br_t (by decide) (br_t (by decide) (br_f (by decide) (br_f (by decide) (br_f (by decide) (br_f (by decide) ⟨w + 1, dg_otL12 _ w h6 f s x hx w 0 0 0 (by omega) ?_⟩)))))
  exact dg_w44 post w h6 f s _ _ ((dg_fixN h6 (by omega)).trans (congrArg nI ht.2)) h
theorem dg_y13 (post : Int32 → Prop) (w : Nat) (h2 : 2 ≤ w) (h6 : w ≤ 6) (f s : Int32) (x y : Nat) (hx : x < 2 ^ w) (hy : y < 2 ^ w) (h : post (nI (dg_val w 13 x y))) : wpY_work post (nI w, f, s) (nI 13) (nI x) (nI y) := by
  unfold wpY_work
  have ht := dg_t13 w (by omega) h2 x hx
  refine br_t (by decide) (br_t (by decide) (br_f (by decide) (br_f (by decide) (br_f (by decide) (br_f (by decide) ⟨w + 1, dg_otL13 _ w h6 f s x hx w 0 0 0 (by omega) ?_⟩)))))
  exact dg_w44 post w h6 f s _ _ ((dg_fixN h6 (by omega)).trans (congrArg nI ht.2)) h
theorem dg_y14 (post : Int32 → Prop) (w : Nat) (h2 : 2 ≤ w) (h6 : w ≤ 6) (f s : Int32) (x y : Nat) (hx : x < 2 ^ w) (hy : y < 2 ^ w) (h : post (nI (dg_val w 14 x y))) : wpY_work post (nI w, f, s) (nI 14) (nI x) (nI y) := by
  have hp := dg_p6 w h6
  unfold wpY_work
  have ht := dg_t14 w (by omega) h2 x hx
  have h' : post (nI (dg_ab w x)) := h
  refine br_t (by decide) (br_t (by decide) (br_f (by decide) (br_f (by decide) (br_t (by decide) (dg_sdW _ w h2 h6 f s x hx (br_c (fun z => ?_) (fun z => ?_)))))))
  · rw [ht.1 z] at h'
    exact dg_w44 post w h6 f s _ x ((dg_fixN h6 (by omega)).trans (congrArg nI (Nat.mod_eq_of_lt hx))) h'
  · exact dg_sdW _ w h2 h6 f s x hx (dg_w44 post w h6 f s _ _ (ht.2 z) h')
theorem dg_y15 (post : Int32 → Prop) (w : Nat) (h2 : 2 ≤ w) (h6 : w ≤ 6) (f s : Int32) (x y : Nat) (hx : x < 2 ^ w) (hy : y < 2 ^ w) (h : post (nI (dg_val w 15 x y))) : wpY_work post (nI w, f, s) (nI 15) (nI x) (nI y) := by
  have hp := dg_p6 w h6
  unfold wpY_work
  have h' : post (nI ((x + y) / 2)) := h
  refine br_t (by decide) (br_t (by decide) (br_f (by decide) (br_f (by decide) (br_f (by decide) (br_t (by decide) ⟨by decide, ?_⟩)))))
  rw [nI_add, dg_hf (by omega)]
  exact dg_w44 post w h6 f s _ _ ((dg_fixN h6 (by omega)).trans (congrArg nI (Nat.mod_eq_of_lt (by omega)))) h'
theorem dg_Y (post : Int32 → Prop) (w : Nat) (h2 : 2 ≤ w) (h6 : w ≤ 6) (f s : Int32) (op x y : Nat) (ho : op < 16) (hx : x < 2 ^ w) (hy : y < 2 ^ w) (h : post (nI (dg_val w op x y))) : wpY_work post (nI w, f, s) (nI op) (nI x) (nI y) := by
  have hc : op = 0 ∨ op = 1 ∨ op = 2 ∨ op = 3 ∨ op = 4 ∨ op = 5 ∨ op = 6 ∨ op = 7 ∨ op = 8 ∨ op = 9 ∨ op = 10 ∨ op = 11 ∨ op = 12 ∨ op = 13 ∨ op = 14 ∨ op = 15 := by omega
  rcases hc with rfl | rfl | rfl | rfl | rfl | rfl | rfl | rfl | rfl | rfl | rfl | rfl | rfl | rfl | rfl | rfl
  · exact dg_y0 post w h2 h6 f s x y hx hy h
  · exact dg_y1 post w h2 h6 f s x y hx hy h
  · exact dg_y2 post w h2 h6 f s x y hx hy h
  · exact dg_y3 post w h2 h6 f s x y hx hy h
  · exact dg_y4 post w h2 h6 f s x y hx hy h
  · exact dg_y5 post w h2 h6 f s x y hx hy h
  · exact dg_y6 post w h2 h6 f s x y hx hy h
  · exact dg_y7 post w h2 h6 f s x y hx hy h
  · exact dg_y8 post w h2 h6 f s x y hx hy h
  · exact dg_y9 post w h2 h6 f s x y hx hy h
  · exact dg_y10 post w h2 h6 f s x y hx hy h
  · exact dg_y11 post w h2 h6 f s x y hx hy h
  · exact dg_y12 post w h2 h6 f s x y hx hy h
  · exact dg_y13 post w h2 h6 f s x y hx hy h
  · exact dg_y14 post w h2 h6 f s x y hx hy h
  · exact dg_y15 post w h2 h6 f s x y hx hy h
end
section
/-! a value is a number -/
theorem dg_valB {w x y : Nat} (op : Nat) (h2 : 2 ≤ w) (hx : x < 2 ^ w) (hy : y < 2 ^ w) : dg_val w op x y < 2 ^ w := by
  have h0 := Nat.two_pow_pos w
  have hp2 := dg_p2 w h2
  unfold dg_val
  split
  · exact Nat.mod_lt _ h0
  · exact Nat.mod_lt _ h0
  · exact Nat.mod_lt _ h0
  · exact Nat.div_lt_of_lt_mul (Nat.mul_lt_mul'' hx hy)
  · have := dg_lt1 x y; omega
  · have := dg_lt1 (x ^^^ 2 ^ (w - 1)) (y ^^^ 2 ^ (w - 1)); omega
  · exact Nat.mod_lt _ h0
  · exact Nat.lt_of_le_of_lt (Nat.div_le_self _ _) hx
  · exact Nat.mod_lt _ h0
  · exact Nat.mod_lt _ h0
  · split <;> assumption
  · split <;> assumption
  · exact Nat.mod_lt _ h0
  · exact Nat.mod_lt _ h0
  · unfold dg_ab
    split
    · exact Nat.mod_lt _ h0
    · exact hx
  · omega
/-! which ints are numbers, which are operations -/
theorem dg_nuT (post : Int32 → Prop) (w : Nat) (h6 : w ≤ 6) (t a b : Int32) (j : Nat) (hj : j < 2 ^ w) (h : post 1) : wpX_isNumber post (nI w, nI (2 ^ w - 1), t, a, b) (nI j) := by
  have hp := dg_p6 w h6
  exact br_f (nI_pos (by omega)) (br_f (nI_nlt (by omega) (by omega)) h)
theorem dg_nuF (post : Int32 → Prop) (w : Nat) (h6 : w ≤ 6) (t a b x : Int32) (hx : x < 0 ∨ nI (2 ^ w) ≤ x) (h : post 0) : wpX_isNumber post (nI w, nI (2 ^ w - 1), t, a, b) x := by
  have hp := dg_p6 w h6
  have h0 := Nat.two_pow_pos w
  by_cases z : x < 0
  · exact br_t z h
  · rcases hx with q | q
    · exact absurd q z
    · exact br_f z (br_t (Int32.lt_of_lt_of_le (nI_lt (a := 2 ^ w - 1) (b := 2 ^ w) (by omega) (by omega)) q) h)
theorem dg_nyT (post : Int32 → Prop) (w : Nat) (h6 : w ≤ 6) (f s : Int32) (j : Nat) (hj : j < 2 ^ w) (h : post 1) : wpY_isNumber post (nI w, f, s) (nI j) := by
  have hp := dg_p6 w h6
  exact br_f (nI_pos (by omega)) (dg_szW _ w h6 f s (br_f (nI_ge hj (by omega)) h))
theorem dg_nyF (post : Int32 → Prop) (w : Nat) (h6 : w ≤ 6) (f s x : Int32) (hx : x < 0 ∨ nI (2 ^ w) ≤ x) (h : post 0) : wpY_isNumber post (nI w, f, s) x := by
  by_cases z : x < 0
  · exact br_t z h
  · rcases hx with q | q
    · exact absurd q z
    · exact br_f z (dg_szW _ w h6 f s (br_t q h))
theorem dg_ioT (post : Int32 → Prop) (op : Nat) (ho : op < 16) (h : post 1) : wpX_isOperation post (nI op) := br_f (nI_pos (by omega)) (br_f (nI_ge (b := 16) ho (by decide)) h)
theorem dg_ioF (post : Int32 → Prop) (x : Int32) (hx : x < 0 ∨ nI 16 ≤ x) (h : post 0) : wpX_isOperation post x := by
  by_cases z : x < 0
  · exact br_t z h
  · rcases hx with q | q
    · exact absurd q z
    · exact br_f z (br_t q h)
theorem dg_iyT (post : Int32 → Prop) (w f s : Int32) (op : Nat) (ho : op < 16) (h : post 1) : wpY_isOp post (w, f, s) (nI op) := br_f (nI_pos (by omega)) (br_f (nI_nlt (b := op) (a := 15) (by omega) (by decide)) h)
theorem dg_iyF (post : Int32 → Prop) (w f s x : Int32) (hx : x < 0 ∨ nI 16 ≤ x) (h : post 0) : wpY_isOp post (w, f, s) x := by
  by_cases z : x < 0
  · exact br_t z h
  · rcases hx with q | q
    · exact absurd q z
    · exact br_f z (br_t (Int32.lt_of_lt_of_le (by decide) q) h)
theorem dg_or3 {a b c : Prop} (h : a ∨ b ∨ c) : (a ∨ b) ∨ c := by
  rcases h with h | h | h
  · exact Or.inl (Or.inl h)
  · exact Or.inl (Or.inr h)
  · exact Or.inr h
/-! operands -/
theorem dg_opXF (post : Int32 → SX → Prop) (w : Nat) (h6 : w ≤ 6) (t a b x y : Int32) (hF : (x < 0 ∨ nI (2 ^ w) ≤ x) ∨ ((∃ j, j < 2 ^ w ∧ x = nI j) ∧ (y < 0 ∨ nI (2 ^ w) ≤ y))) (h : post 0 (nI w, nI (2 ^ w - 1), t, a, b)) : wpX_operands post (nI w, nI (2 ^ w - 1), t, a, b) x y := by
  unfold wpX_operands
  rcases hF with q | ⟨⟨j, hj, rfl⟩, q⟩
  · exact dg_nuF _ w h6 t a b x q (br_t rfl h)
  · exact dg_nuT _ w h6 t a b j hj (br_f (by decide) (dg_nuF _ w h6 t a b y q (br_t rfl h)))
theorem dg_opYF (post : Int32 → SY → Prop) (w : Nat) (h6 : w ≤ 6) (f s x y : Int32) (hF : (x < 0 ∨ nI (2 ^ w) ≤ x) ∨ ((∃ j, j < 2 ^ w ∧ x = nI j) ∧ (y < 0 ∨ nI (2 ^ w) ≤ y))) (h : post 0 (nI w, f, s)) : wpY_operands post (nI w, f, s) x y := by
  unfold wpY_operands
  rcases hF with q | ⟨⟨j, hj, rfl⟩, q⟩
  · exact dg_nyF _ w h6 f s x q (br_t rfl h)
  · exact dg_nyT _ w h6 f s j hj (br_f (by decide) (dg_nyF _ w h6 f s y q (br_t rfl h)))
theorem dg_opXT (post : Int32 → SX → Prop) (w : Nat) (h6 : w ≤ 6) (t a b : Int32) (i j : Nat) (hi : i < 2 ^ w) (hj : j < 2 ^ w) (h : post 1 (nI w, nI (2 ^ w - 1), t, nI i, nI j)) : wpX_operands post (nI w, nI (2 ^ w - 1), t, a, b) (nI i) (nI j) := by
  unfold wpX_operands
  exact dg_nuT _ w h6 t a b i hi (br_f (by decide) (dg_nuT _ w h6 t a b j hj (br_f (by decide) h)))
theorem dg_opYT (post : Int32 → SY → Prop) (w : Nat) (h6 : w ≤ 6) (f s : Int32) (i j : Nat) (hi : i < 2 ^ w) (hj : j < 2 ^ w) (h : post 1 (nI w, nI i, nI j)) : wpY_operands post (nI w, f, s) (nI i) (nI j) := by
  unfold wpY_operands
  exact dg_nyT _ w h6 f s i hi (br_f (by decide) (dg_nyT _ w h6 f s j hj (br_f (by decide) h)))
/-! result of the reference -/
theorem dg_reF (post : Int32 → Prop) (w f s x : Int32) (hx : x < 0 ∨ nI 16 ≤ x) (h : post (-1)) : wpY_result post (w, f, s) x := by
  unfold wpY_result
  exact dg_iyF _ w f s x hx (br_t rfl h)
theorem dg_reT (post : Int32 → Prop) (w : Nat) (h2 : 2 ≤ w) (h6 : w ≤ 6) (op x y : Nat) (ho : op < 16) (hx : x < 2 ^ w) (hy : y < 2 ^ w) (h : post (nI (dg_val w op x y))) : wpY_result post (nI w, nI x, nI y) (nI op) := by
  unfold wpY_result
  exact dg_iyT _ _ _ _ op ho (br_f (by decide) (dg_Y _ w h2 h6 _ _ op x y ho hx hy h))
/-! the counts of alike -/
def dg_ct (w op y v : Nat) : Nat → Nat → Nat → Nat
  | 0, _, c => c
  | d + 1, i, c => dg_ct w op y v d (i + 1) (if dg_val w op i y = v then c + 1 else c)
theorem dg_alX (post : Int32 → Prop) (w : Nat) (h2 : 2 ≤ w) (h6 : w ≤ 6) (t a : Int32) (op y v : Nat) (ho : op < 16) (hy : y < 2 ^ w) (hv : v < 2 ^ w) : ∀ d i c, i + d = 2 ^ w → post (nI (dg_ct w op y v d i c)) → wX_alike_28 post (nI op) (nI v) (nI w) (nI (2 ^ w - 1)) t a (nI y) (d + 1) (nI c) (nI i) := by
  have hp := dg_p6 w h6
  have h0 := Nat.two_pow_pos w
  intro d
  induction d with
  | zero =>
    intro i c hi h
    exact br_t (nI_lt (by omega) (by omega)) h
  | succ d ih =>
    intro i c hi h
    have h' : post (nI (dg_ct w op y v d (i + 1) (if dg_val w op i y = v then c + 1 else c))) := h
    have hb := dg_valB op h2 (show i < 2 ^ w by omega) hy
    refine br_f (nI_nlt (by omega) (by omega)) (dg_X _ w h2 h6 t _ _ op i y ho (by omega) hy ?_)
    refine pk_eq (dg_val w op i y) v (fun e => ?_) (fun e => ?_)
    · rw [if_pos e] at h'
      exact nm_r (nI_1 c) (nm_r (nI_1 i) (ih (i + 1) (c + 1) (by omega) h'))
    · rw [if_neg e] at h'
      exact nm_r (nI_1 i) (ih (i + 1) c (by omega) h')
theorem dg_alY (post : Int32 → Prop) (w : Nat) (h2 : 2 ≤ w) (h6 : w ≤ 6) (op x y : Nat) (ho : op < 16) (hx : x < 2 ^ w) (hy : y < 2 ^ w) : ∀ d i c, i + d = 2 ^ w → post (nI (dg_ct w op y (dg_val w op x y) d i c)) → wY_alike_14 post (nI op) (nI w) (nI x) (nI y) (d + 1) (nI c) (nI i) := by
  have hp := dg_p6 w h6
  have hv := dg_valB op h2 hx hy
  intro d
  induction d with
  | zero =>
    intro i c hi h
    rw [wY_alike_14]
    exact dg_szW _ w h6 _ _ (br_t (nI_le (a := 2 ^ w) (b := i) (by omega) (by omega)) h)
  | succ d ih =>
    intro i c hi h
    have h' : post (nI (dg_ct w op y (dg_val w op x y) d (i + 1) (if dg_val w op i y = dg_val w op x y then c + 1 else c))) := h
    have hb := dg_valB op h2 (show i < 2 ^ w by omega) hy
    rw [wY_alike_14]
    refine dg_szW _ w h6 _ _ (br_f (nI_ge (a := i) (b := 2 ^ w) (by omega) (by omega)) (dg_Y _ w h2 h6 _ _ op i y ho (by omega) hy (dg_Y _ w h2 h6 _ _ op x y ho hx hy ?_)))
    refine pk_eq (dg_val w op i y) (dg_val w op x y) (fun e => ?_) (fun e => ?_)
    · rw [if_pos e] at h'
      exact nm_r (nI_1 c) (nm_r (nI_1 i) (ih (i + 1) (c + 1) (by omega) h'))
    · rw [if_neg e] at h'
      exact nm_r (nI_1 i) (ih (i + 1) c (by omega) h')
/-! a bit of a number -/
theorem dg_btY {v i : Nat} (hv : v < 64) (hi : i < 6) : nI v / ((1 : Int32) <<< (nI i &&& 31)) - nI v / ((1 : Int32) <<< (nI i &&& 31)) / 2 * 2 = nI (v / 2 ^ i % 2) := by
  have hi6 := dg_p6 i (by omega)
  have hd : v / 2 ^ i ≤ v := Nat.div_le_self _ _
  rw [dg_1s i (by omega), pk_div (by omega) (Nat.two_pow_pos i) (by omega)]
  exact pk_rem (d := 2) (by omega) (by decide) (by decide)
theorem dg_bt0 {i : Nat} (hi : i < 6) : ¬ ((1 : Int32) <<< (nI i &&& 31)) = 0 := by
  have hi6 := dg_p6 i (by omega)
  rw [dg_1s i (by omega)]
  exact nI_ne0 (Nat.two_pow_pos i) (by omega)
/-! the constructor -/
theorem dg_i26 (post : SX → Prop) (k1 : Int32) (w : Nat) (h6 : w ≤ 6) (h : ∀ t : Int32, post (nI w, nI (2 ^ w - 1), t, 0, 0)) : wX_init_26 post k1 (nI w) 0 0 0 0 0 :=
  nm_r (e' := nI (2 ^ w - 1)) (by rw [dg_1s w (by omega)]; exact dg_pred (Nat.two_pow_pos w)) (br_c (fun _ => ⟨by decide, by decide, h 0⟩) (fun _ => ⟨by decide, by decide, h 1⟩))
end
section
/-- one width, one pair of numbers on both sides -/
def i_Rel (_ : Nat) (u : SX) (v : SY) : Prop := ∃ (w x y : Nat) (t : Int32), (2 ≤ w ∧ w ≤ 6 ∧ x < 2 ^ w ∧ y < 2 ^ w) ∧ u = (nI w, nI (2 ^ w - 1), t, nI x, nI y) ∧ v = (nI w, nI x, nI y)
theorem dg_Rel {k w x y : Nat} (t : Int32) (h2 : 2 ≤ w) (h6 : w ≤ 6) (hx : x < 2 ^ w) (hy : y < 2 ^ w) : i_Rel k (nI w, nI (2 ^ w - 1), t, nI x, nI y) (nI w, nI x, nI y) := ⟨w, x, y, t, ⟨h2, h6, hx, hy⟩, rfl, rfl⟩
theorem i_up {k : Nat} {u : SX} {v : SY} (h : i_Rel k u v) : i_Rel (k + 3) u v := h
theorem i_vc0 (k0 : Int32) (k1 : Int32) : wpX_init (fun u => wpY_init (fun v => i_Rel 2 u v) k0 k1) k0 k1 := by
  by_cases a : 2 ≤ k0
  · by_cases b : k0 ≤ 6
    · have hn : ¬ k0 < 0 := fun z => absurd (Int32.lt_of_lt_of_le (show (0 : Int32) < 2 by decide) a) (Int32.not_lt.mpr (Int32.le_of_lt z))
      obtain ⟨w, hw, rfl⟩ := nI_of2 (M := 6) (n := 6) (by decide) hn b
      have h2 : 2 ≤ w := (nI_leI (a := 2) (b := w) (by decide) (by omega)).mp a
      exact br_t a (br_t b (dg_i26 _ k1 w hw (fun t => br_t a (br_t b (dg_Rel (x := 0) (y := 0) t h2 hw (Nat.two_pow_pos w) (Nat.two_pow_pos w))))))
    · exact br_t a (br_f b (dg_i26 _ k1 6 (by decide) (fun t => br_t a (br_f b (dg_Rel (w := 6) (x := 0) (y := 0) t (by decide) (by decide) (by decide) (by decide))))))
  · exact br_f a (dg_i26 _ k1 2 (by decide) (fun t => br_f a (dg_Rel (w := 2) (x := 0) (y := 0) t (by decide) (by decide) (by decide) (by decide))))
theorem i_vc_operands {k : Nat} {u : SX} {v : SY} (I : i_Rel k u v) (hk : k + 3 ≤ 1538) (v1 : Int32) (v2 : Int32) : wpX_operands (fun r u' => wpY_operands (fun r' v' => r' = r ∧ i_Rel (k + 3) u' v') v v1 v2) u v1 v2 := by
  obtain ⟨w, x, y, t, ⟨h2, h6, hx, hy⟩, rfl, rfl⟩ := I
  have hp := dg_p6 w h6
  rcases dg_or3 (pk_ix v1 (n := 2 ^ w) (by omega)) with q | ⟨i, hi, rfl⟩
  · exact dg_opXF _ w h6 t _ _ v1 v2 (Or.inl q) (dg_opYF _ w h6 _ _ v1 v2 (Or.inl q) ⟨rfl, dg_Rel t h2 h6 hx hy⟩)
  · rcases dg_or3 (pk_ix v2 (n := 2 ^ w) (by omega)) with q | ⟨j, hj, rfl⟩
    · exact dg_opXF _ w h6 t _ _ _ v2 (Or.inr ⟨⟨i, hi, rfl⟩, q⟩) (dg_opYF _ w h6 _ _ _ v2 (Or.inr ⟨⟨i, hi, rfl⟩, q⟩) ⟨rfl, dg_Rel t h2 h6 hx hy⟩)
    · exact dg_opXT _ w h6 t _ _ i j hi hj (dg_opYT _ w h6 _ _ i j hi hj ⟨rfl, dg_Rel t h2 h6 hi hj⟩)
theorem i_vc_result {k : Nat} {u : SX} {v : SY} (I : i_Rel k u v) (hk : k + 3 ≤ 1538) (v1 : Int32) : wpX_result (fun r => wpY_result (fun r' => r' = r ∧ i_Rel (k + 3) u v) v v1) u v1 := by
  obtain ⟨w, x, y, t, ⟨h2, h6, hx, hy⟩, rfl, rfl⟩ := I
  unfold wpX_result
  rcases dg_or3 (pk_ix v1 (n := 16) (by decide)) with q | ⟨op, ho, rfl⟩
  · exact dg_ioF _ v1 q (br_t rfl (dg_reF _ _ _ _ v1 q ⟨rfl, dg_Rel t h2 h6 hx hy⟩))
  · exact dg_ioT _ op ho (br_f (by decide) (dg_X _ w h2 h6 t _ _ op x y ho hx hy (dg_reT _ w h2 h6 op x y ho hx hy ⟨rfl, dg_Rel t h2 h6 hx hy⟩)))
theorem i_vc_bit {k : Nat} {u : SX} {v : SY} (I : i_Rel k u v) (hk : k + 3 ≤ 1538) (v1 : Int32) (v2 : Int32) : wpX_bit (fun r => wpY_bit (fun r' => r' = r ∧ i_Rel (k + 3) u v) v v1 v2) u v1 v2 := by
  obtain ⟨w, x, y, t, ⟨h2, h6, hx, hy⟩, rfl, rfl⟩ := I
  have hp := dg_p6 w h6
  have J : i_Rel (k + 3) (nI w, nI (2 ^ w - 1), t, nI x, nI y) (nI w, nI x, nI y) := dg_Rel t h2 h6 hx hy
  unfold wpX_bit wpY_bit
  rcases dg_or3 (pk_ix v1 (n := 16) (by decide)) with q | ⟨op, ho, rfl⟩
  · exact dg_ioF _ v1 q (br_t rfl (dg_iyF _ _ _ _ v1 q (br_t rfl ⟨rfl, J⟩)))
  · refine dg_ioT _ op ho (br_f (by decide) ?_)
    by_cases z : v2 < 0
    · exact br_t z (dg_iyT _ _ _ _ op ho (br_f (by decide) (br_t z ⟨rfl, J⟩)))
    · obtain ⟨i, hi, rfl⟩ := nI_of z
      by_cases q : i < w
      · have hq : nI i < nI w := nI_lt q (by omega)
        have hv := dg_valB op h2 hx hy
        refine br_f z (br_t hq (dg_X _ w h2 h6 t _ _ op x y ho hx hy (dg_iyT _ _ _ _ op ho (br_f (by decide) (br_f z (br_t hq (dg_reT _ w h2 h6 op x y ho hx hy ⟨dg_bt0 (by omega), by decide, ?_, J⟩)))))))
        rw [dg_btY (by omega) (by omega), dg_bit (by omega) (by omega)]
      · have hq : ¬ nI i < nI w := nI_nlt (by omega) hi
        exact br_f z (br_f hq (dg_iyT _ _ _ _ op ho (br_f (by decide) (br_f z (br_f hq ⟨rfl, J⟩)))))
theorem i_vc_feed {k : Nat} {u : SX} {v : SY} (I : i_Rel k u v) (hk : k + 3 ≤ 1538) (v1 : Int32) : wpX_feed (fun r u' => wpY_feed (fun r' v' => r' = r ∧ i_Rel (k + 3) u' v') v v1) u v1 := by
  obtain ⟨w, x, y, t, ⟨h2, h6, hx, hy⟩, rfl, rfl⟩ := I
  unfold wpX_feed wpY_feed
  rcases dg_or3 (pk_ix v1 (n := 16) (by decide)) with q | ⟨op, ho, rfl⟩
  · exact dg_ioF _ v1 q (br_t rfl (dg_iyF _ _ _ _ v1 q (br_t rfl ⟨rfl, dg_Rel t h2 h6 hx hy⟩)))
  · exact dg_ioT _ op ho (br_f (by decide) (dg_X _ w h2 h6 t _ _ op x y ho hx hy (dg_iyT _ _ _ _ op ho (br_f (by decide) (dg_Y _ w h2 h6 _ _ op x y ho hx hy ⟨rfl, dg_Rel t h2 h6 (dg_valB op h2 hx hy) hy⟩)))))
theorem i_vc_swap {k : Nat} {u : SX} {v : SY} (I : i_Rel k u v) (hk : k + 3 ≤ 1538) : wpX_swap (fun u' => wpY_swap (fun v' => i_Rel (k + 3) u' v') v) u := by
  obtain ⟨w, x, y, t, ⟨h2, h6, hx, hy⟩, rfl, rfl⟩ := I
  exact dg_Rel (k := k + 3) t h2 h6 hy hx
theorem i_vc_first {k : Nat} {u : SX} {v : SY} (I : i_Rel k u v) (hk : k + 3 ≤ 1538) : wpX_first (fun r => wpY_first (fun r' => r' = r ∧ i_Rel (k + 3) u v) v) u := by
  obtain ⟨w, x, y, t, ⟨h2, h6, hx, hy⟩, rfl, rfl⟩ := I
  exact ⟨rfl, dg_Rel t h2 h6 hx hy⟩
theorem i_vc_second {k : Nat} {u : SX} {v : SY} (I : i_Rel k u v) (hk : k + 3 ≤ 1538) : wpX_second (fun r => wpY_second (fun r' => r' = r ∧ i_Rel (k + 3) u v) v) u := by
  obtain ⟨w, x, y, t, ⟨h2, h6, hx, hy⟩, rfl, rfl⟩ := I
  exact ⟨rfl, dg_Rel t h2 h6 hx hy⟩
theorem i_vc_alike {k : Nat} {u : SX} {v : SY} (I : i_Rel k u v) (hk : k + 3 ≤ 1538) (v1 : Int32) : wpX_alike (fun r => wpY_alike (fun r' => r' = r ∧ i_Rel (k + 3) u v) v v1) u v1 := by
  obtain ⟨w, x, y, t, ⟨h2, h6, hx, hy⟩, rfl, rfl⟩ := I
  unfold wpX_alike wpY_alike
  rcases dg_or3 (pk_ix v1 (n := 16) (by decide)) with q | ⟨op, ho, rfl⟩
  · exact dg_ioF _ v1 q (br_t rfl (dg_iyF _ _ _ _ v1 q (br_t rfl ⟨rfl, dg_Rel t h2 h6 hx hy⟩)))
  · exact dg_ioT _ op ho (br_f (by decide) (dg_X _ w h2 h6 t _ _ op x y ho hx hy ⟨2 ^ w + 1, dg_alX _ w h2 h6 t _ op y _ ho hy (dg_valB op h2 hx hy) (2 ^ w) 0 0 (Nat.zero_add _) (dg_iyT _ _ _ _ op ho (br_f (by decide) ⟨2 ^ w + 1, dg_alY _ w h2 h6 op x y ho hx hy (2 ^ w) 0 0 (Nat.zero_add _) ⟨rfl, dg_Rel t h2 h6 hx hy⟩⟩))⟩))
theorem i_vc_width {k : Nat} {u : SX} {v : SY} (I : i_Rel k u v) (hk : k + 3 ≤ 1538) : wpX_width (fun r => wpY_width (fun r' => r' = r ∧ i_Rel (k + 3) u v) v) u := by
  obtain ⟨w, x, y, t, ⟨h2, h6, hx, hy⟩, rfl, rfl⟩ := I
  exact ⟨rfl, dg_Rel t h2 h6 hx hy⟩
end
