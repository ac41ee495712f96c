/-! the adder by bits -/
theorem dg_b1 (i : Nat) : bt 1 i = decide (i = 0) := by
  rcases Nat.lt_or_ge i 32 with h | h
  · exact (by decide +kernel : ∀ i, i < 32 → bt 1 i = decide (i = 0)) i h
  · rw [b_big h, decide_eq_false (by omega)]
def dg_c (c : Bool) : Int32 := if c then 1 else 0
theorem dg_cb (c : Bool) (i : Nat) : bt (dg_c c) i = (decide (i = 0) && c) := by
  cases c
  · show bt 0 i = _
    rw [b_0, Bool.and_false]
  · show bt 1 i = _
    rw [dg_b1, Bool.and_true]
/-- the carry into wire i -/
def dg_cy (x y : Int32) (c : Bool) (i : Nat) : Bool := BitVec.carry i x.toBitVec y.toBitVec c
theorem dg_cy0 (x y : Int32) (c : Bool) : dg_cy x y c 0 = c := BitVec.carry_zero
theorem dg_cyS (x y : Int32) (c : Bool) (i : Nat) : dg_cy x y c (i + 1) = ((bt x i && bt y i) || ((bt x i ^^ bt y i) && dg_cy x y c i)) := by
  unfold dg_cy bt
  rw [BitVec.carry_succ]
  cases x.toBitVec.getLsbD i <;> cases y.toBitVec.getLsbD i <;> simp
theorem dg_add (x y : Int32) (c : Bool) {j : Nat} (hj : j < 32) : bt (x + y + dg_c c) j = (bt x j ^^ (bt y j ^^ dg_cy x y c j)) := by
  have e : (dg_c c).toBitVec = BitVec.setWidth 32 (BitVec.ofBool c) := by cases c <;> decide
  unfold bt dg_cy
  rw [Int32.toBitVec_add, Int32.toBitVec_add, e, BitVec.getLsbD_add_add_bool hj]
/-- carries that are right on sixteen wires make a right sum -/
theorem dg_sum (x y K : Int32) (c : Bool) (h : ∀ j, j < 16 → bt K j = dg_cy x y c j) : ((x ^^^ y) ^^^ K) &&& 65535 = (x + y + dg_c c) &&& 65535 := by
  apply b_ext
  intro j hj
  rw [b_and, b_and, b_65535, b_xor, b_xor]
  rcases Nat.lt_or_ge j 16 with h16 | h16
  · rw [dg_add x y c hj, h j h16, Bool.xor_assoc]
  · rw [decide_eq_false (by omega), Bool.and_false, Bool.and_false]
/-! carries that run from wire to wire -/
def dg_rs (g p k : Int32) (i : Nat) : Int32 := k ||| (((g ||| (p &&& k)) &&& ((1 : Int32) <<< (nI i &&& 31))) <<< ((1 : Int32) &&& 31))
def dg_run (g p c : Int32) : Nat → Int32
  | 0 => c
  | i + 1 => dg_rs g p (dg_run g p c i) i
theorem dg_one {i j : Nat} (hi : i < 32) (hj : j < 32) : bt ((1 : Int32) <<< (nI i &&& 31)) j = decide (j = i) := by
  rw [b_shl i hi 1 hj, dg_b1]
  by_cases h : j = i
  · subst h; simp
  · by_cases h2 : i ≤ j
    · simp [h, h2]; omega
    · simp [h, h2]
theorem dg_run_b (x y : Int32) (c : Bool) : ∀ i, i ≤ 16 → ∀ j, j < 32 → bt (dg_run (x &&& y) (x ^^^ y) (dg_c c) i) j = (decide (j ≤ i) && dg_cy x y c j) := by
  intro i
  induction i with
  | zero =>
    intro _ j hj
    show bt (dg_c c) j = _
    rw [dg_cb]
    cases j with
    | zero => simp [dg_cy0]
    | succ j => simp
  | succ i ih =>
    intro hi j hj
    show bt (dg_rs (x &&& y) (x ^^^ y) (dg_run (x &&& y) (x ^^^ y) (dg_c c) i) i) j = _
    unfold dg_rs
    rw [b_or, ih (by omega) j hj]
    have hs := b_shl 1 (by omega) (((x &&& y) ||| ((x ^^^ y) &&& dg_run (x &&& y) (x ^^^ y) (dg_c c) i)) &&& ((1 : Int32) <<< (nI i &&& 31))) hj
    refine (congrArg (fun z => ((decide (j ≤ i) && dg_cy x y c j) || z)) hs).trans ?_
    cases j with
    | zero => simp
    | succ j =>
      show ((decide (j + 1 ≤ i) && dg_cy x y c (j + 1)) || (decide (1 ≤ j + 1) && bt (((x &&& y) ||| ((x ^^^ y) &&& dg_run (x &&& y) (x ^^^ y) (dg_c c) i)) &&& ((1 : Int32) <<< (nI i &&& 31))) j)) = _
      rw [b_and, b_or, b_and, b_and, b_xor, ih (by omega) j (by omega), dg_one (by omega) (by omega), dg_cyS]
      by_cases h : j = i
      · subst h
        simp
      · by_cases h2 : j + 1 ≤ i
        · have h3 : j ≤ i := by omega
          simp [h, h2, h3]
        · have h3 : ¬ j ≤ i := by omega
          simp [h, h2, h3]
/-! carries worked out in a tree: what s wires that end at wire i make, and whether they pass -/
def dg_G (g p : Nat → Bool) : Nat → Nat → Bool
  | 0, _ => false
  | _ + 1, 0 => g 0
  | s + 1, i + 1 => g (i + 1) || (p (i + 1) && dg_G g p s i)
def dg_P (p : Nat → Bool) : Nat → Nat → Bool
  | 0, _ => true
  | s + 1, 0 => p 0 && decide (s = 0)
  | s + 1, i + 1 => p (i + 1) && dg_P p s i
theorem dg_Gadd (g p : Nat → Bool) (t : Nat) : ∀ s i, dg_G g p (s + t) i = (dg_G g p s i || (dg_P p s i && (decide (s ≤ i) && dg_G g p t (i - s)))) := by
  intro s
  induction s with
  | zero => intro i; simp [dg_G, dg_P]
  | succ s ih =>
    intro i
    rw [show s + 1 + t = (s + t) + 1 by omega]
    cases i with
    | zero => simp [dg_G]
    | succ i =>
      simp only [dg_G, dg_P, ih]
      rw [show i + 1 - (s + 1) = i - s by omega, show decide (s + 1 ≤ i + 1) = decide (s ≤ i) by simp]
      cases g (i + 1) <;> cases p (i + 1) <;> simp
theorem dg_Padd (p : Nat → Bool) {t : Nat} (ht : 0 < t) : ∀ s i, dg_P p (s + t) i = (dg_P p s i && (decide (s ≤ i) && dg_P p t (i - s))) := by
  intro s
  induction s with
  | zero => intro i; simp [dg_P]
  | succ s ih =>
    intro i
    rw [show s + 1 + t = (s + t) + 1 by omega]
    cases i with
    | zero =>
      have h : ¬ s + t = 0 := by omega
      simp [dg_P]
      omega
    | succ i =>
      simp only [dg_P, ih]
      rw [show i + 1 - (s + 1) = i - s by omega, show decide (s + 1 ≤ i + 1) = decide (s ≤ i) by simp]
      cases p (i + 1) <;> simp
def dg_g (x y : Int32) (c : Bool) (i : Nat) : Bool := (bt x i && bt y i) || ((bt x i ^^ bt y i) && (decide (i = 0) && c))
def dg_p (x y : Int32) (i : Nat) : Bool := bt x i ^^ bt y i
theorem dg_Gcy (x y : Int32) (c : Bool) : ∀ i s, i < s → dg_G (dg_g x y c) (dg_p x y) s i = dg_cy x y c (i + 1) := by
  intro i
  induction i with
  | zero =>
    intro s hs
    cases s with
    | zero => omega
    | succ s =>
      rw [dg_cyS, dg_cy0]
      simp [dg_G, dg_g]
  | succ i ih =>
    intro s hs
    cases s with
    | zero => omega
    | succ s =>
      rw [dg_cyS]
      simp only [dg_G]
      rw [ih s (by omega)]
      simp [dg_g, dg_p]
def dg_tm (m q : Int32) (r : Nat) : Int32 := m ||| (q &&& (m <<< (nI r &&& 31)))
def dg_tq (q : Int32) (r : Nat) : Int32 := q &&& (q <<< (nI r &&& 31))
theorem dg_tm_b {g p : Nat → Bool} {m q : Int32} {r : Nat} (hr : r < 32) (hm : ∀ j, j < 32 → bt m j = dg_G g p r j) (hq : ∀ j, j < 32 → bt q j = dg_P p r j) : ∀ j, j < 32 → bt (dg_tm m q r) j = dg_G g p (r + r) j := by
  intro j hj
  unfold dg_tm
  rw [b_or, b_and, b_shl r hr m hj, hm j hj, hq j hj, hm (j - r) (by omega), dg_Gadd g p r r j]
theorem dg_tq_b {p : Nat → Bool} {q : Int32} {r : Nat} (h0 : 0 < r) (hr : r < 32) (hq : ∀ j, j < 32 → bt q j = dg_P p r j) : ∀ j, j < 32 → bt (dg_tq q r) j = dg_P p (r + r) j := by
  intro j hj
  unfold dg_tq
  rw [b_and, b_shl r hr q hj, hq j hj, hq (j - r) (by omega), dg_Padd p h0 r j]
/-- the tree's result after four doublings -/
def dg_tree (g p c : Int32) : Int32 :=
  let m0 := g ||| (p &&& c)
  let m1 := dg_tm m0 p 1
  let q1 := dg_tq p 1
  let m2 := dg_tm m1 q1 2
  let q2 := dg_tq q1 2
  let m3 := dg_tm m2 q2 4
  let q3 := dg_tq q2 4
  let m4 := dg_tm m3 q3 8
  (m4 <<< ((1 : Int32) &&& 31)) ||| c
theorem dg_tree_b (x y : Int32) (c : Bool) : ∀ j, j < 16 → bt (dg_tree (x &&& y) (x ^^^ y) (dg_c c)) j = dg_cy x y c j := by
  have hm0 : ∀ j, j < 32 → bt ((x &&& y) ||| ((x ^^^ y) &&& dg_c c)) j = dg_G (dg_g x y c) (dg_p x y) 1 j := by
    intro j hj
    rw [b_or, b_and, b_and, b_xor, dg_cb]
    cases j with
    | zero => simp [dg_G, dg_g]
    | succ j => simp [dg_G, dg_g]
  have hq0 : ∀ j, j < 32 → bt (x ^^^ y) j = dg_P (dg_p x y) 1 j := by
    intro j hj
    rw [b_xor]
    cases j with
    | zero => simp [dg_P, dg_p]
    | succ j => simp [dg_P, dg_p]
  have hm1 := dg_tm_b (by omega) hm0 hq0
  have hq1 := dg_tq_b (by omega) (by omega) hq0
  have hm2 := dg_tm_b (r := 2) (by omega) hm1 hq1
  have hq2 := dg_tq_b (r := 2) (by omega) (by omega) hq1
  have hm3 := dg_tm_b (r := 4) (by omega) hm2 hq2
  have hq3 := dg_tq_b (r := 4) (by omega) (by omega) hq2
  have hm4 := dg_tm_b (r := 8) (by omega) hm3 hq3
  intro j hj
  unfold dg_tree
  dsimp only
  rw [b_or, dg_cb]
  refine (congrArg (fun z => z || (decide (j = 0) && c)) (b_shl 1 (by omega) _ (by omega : j < 32))).trans ?_
  cases j with
  | zero => simp [dg_cy0]
  | succ j =>
    rw [Nat.add_sub_cancel, hm4 j (by omega), dg_Gcy x y c j _ (by omega)]
    simp
/-! both, over naturals -/
theorem dg_cN {c : Nat} (h : c ≤ 1) : nI c = dg_c (decide (c = 1)) := by
  have h2 : c = 0 ∨ c = 1 := by omega
  rcases h2 with rfl | rfl <;> rfl
theorem dg_sN (a b c : Nat) : (nI a + nI b + nI c) &&& 65535 = nI ((a + b + c) % 65536) := by
  rw [nI_add, nI_add, nx_mod]
theorem dg_sumR (a b c : Nat) (h : c ≤ 1) : ((nI a ^^^ nI b) ^^^ dg_run (nI a &&& nI b) (nI a ^^^ nI b) (nI c) 16) &&& 65535 = nI ((a + b + c) % 65536) := by
  rw [← dg_sN, dg_cN h]
  apply dg_sum
  intro j hj
  rw [dg_run_b _ _ _ 16 (by omega) j (by omega), decide_eq_true (by omega : j ≤ 16), Bool.true_and]
theorem dg_sumT (a b c : Nat) (h : c ≤ 1) : ((nI a ^^^ nI b) ^^^ dg_tree (nI a &&& nI b) (nI a ^^^ nI b) (nI c)) &&& 65535 = nI ((a + b + c) % 65536) := by
  rw [← dg_sN, dg_cN h]
  exact dg_sum _ _ _ _ (dg_tree_b _ _ _)
