/-! sums over an initial stretch -/
def ic_S (f : Nat → Nat) : Nat → Nat
  | 0 => 0
  | n + 1 => ic_S f n + f n
theorem ic_S_ext {f g : Nat → Nat} : ∀ n, (∀ i, i < n → f i = g i) → ic_S f n = ic_S g n := by
  intro n
  induction n with
  | zero => intro _; rfl
  | succ n ih =>
    intro h
    show ic_S f n + f n = ic_S g n + g n
    rw [ih (fun i hi => h i (by omega)), h n (by omega)]
theorem ic_S_add (f : Nat → Nat) (a : Nat) : ∀ b, ic_S f (a + b) = ic_S f a + ic_S (fun i => f (a + i)) b := by
  intro b
  induction b with
  | zero => rfl
  | succ b ih =>
    show ic_S f (a + b) + f (a + b) = ic_S f a + (ic_S (fun i => f (a + i)) b + f (a + b))
    omega
theorem ic_S_plus (f g : Nat → Nat) : ∀ n, ic_S (fun i => f i + g i) n = ic_S f n + ic_S g n := by
  intro n
  induction n with
  | zero => rfl
  | succ n ih =>
    show ic_S (fun i => f i + g i) n + (f n + g n) = ic_S f n + f n + (ic_S g n + g n)
    omega
theorem ic_S_zero : ∀ n, ic_S (fun _ => 0) n = 0 := by
  intro n
  induction n with
  | zero => rfl
  | succ n ih => exact ih
theorem ic_S_swap (g : Nat → Nat → Nat) (n : Nat) : ∀ m, ic_S (fun y => ic_S (fun x => g x y) n) m = ic_S (fun x => ic_S (fun y => g x y) m) n := by
  intro m
  induction m with
  | zero => exact (ic_S_zero n).symm
  | succ m ih =>
    show ic_S (fun y => ic_S (fun x => g x y) n) m + ic_S (fun x => g x m) n = ic_S (fun x => ic_S (fun y => g x y) m + g x m) n
    rw [ih, ic_S_plus]
theorem ic_S_cut (f : Nat → Nat) (y : Nat) : ∀ d, ic_S (fun x => if x < y then f x else 0) (y + d) = ic_S f y := by
  intro d
  induction d with
  | zero => exact ic_S_ext y (fun i hi => if_pos hi)
  | succ d ih =>
    show ic_S (fun x => if x < y then f x else 0) (y + d) + (if y + d < y then f (y + d) else 0) = _
    rw [ih, if_neg (by omega)]
    rfl
theorem ic_S_rows (F : Nat → Nat) (w : Nat) : ∀ m, ic_S F (w * m) = ic_S (fun x => ic_S (fun y => F (w * x + y)) w) m := by
  intro m
  induction m with
  | zero => rfl
  | succ m ih =>
    show ic_S F (w * m + w) = ic_S (fun x => ic_S (fun y => F (w * x + y)) w) m + ic_S (fun y => F (w * m + y)) w
    rw [ic_S_add, ih]
theorem ic_S_le {f : Nat → Nat} (h : ∀ i, f i ≤ 1) : ∀ n, ic_S f n ≤ n := by
  intro n
  induction n with
  | zero => exact Nat.le_refl 0
  | succ n ih =>
    have := h n
    show ic_S f n + f n ≤ n + 1
    omega
/-- the pairs below the diagonal, by columns and by rows of sixteen -/
theorem ic_S_pairs (f : Nat → Nat → Nat) : ic_S (fun y => ic_S (fun x => f x y) y) 16 = ic_S (fun c => if c / 16 < c % 16 then f (c / 16) (c % 16) else 0) 256 := by
  have h1 : ic_S (fun y => ic_S (fun x => f x y) y) 16 = ic_S (fun y => ic_S (fun x => if x < y then f x y else 0) 16) 16 := by
    refine ic_S_ext 16 (fun y hy => ?_)
    have h := ic_S_cut (fun x => f x y) y (16 - y)
    rw [show y + (16 - y) = 16 from by omega] at h
    exact h.symm
  have h2 : ic_S (fun c => if c / 16 < c % 16 then f (c / 16) (c % 16) else 0) (16 * 16) = ic_S (fun x => ic_S (fun y => if x < y then f x y else 0) 16) 16 := by
    rw [ic_S_rows]
    refine ic_S_ext 16 (fun x hx => ic_S_ext 16 (fun y hy => ?_))
    show (if (16 * x + y) / 16 < (16 * x + y) % 16 then f ((16 * x + y) / 16) ((16 * x + y) % 16) else 0) = _
    rw [show (16 * x + y) / 16 = x from by omega, show (16 * x + y) % 16 = y from by omega]
  rw [h1, ic_S_swap (fun x y => if x < y then f x y else 0) 16 16]
  exact h2.symm
/-! the number of bits -/
def ic_b (w : Int32) (i : Nat) : Nat := if bt w i = true then 1 else 0
theorem ic_b_t {w : Int32} {i : Nat} (h : bt w i = true) : ic_b w i = 1 := if_pos h
theorem ic_b_f {w : Int32} {i : Nat} (h : bt w i = false) : ic_b w i = 0 := if_neg (by rw [h]; decide)
theorem ic_b_le (w : Int32) (i : Nat) : ic_b w i ≤ 1 := by
  unfold ic_b
  split <;> omega
def ic_pop (w : Int32) : Nat := ic_S (ic_b w) 32
theorem ic_pop_le (w : Int32) : ic_pop w ≤ 32 := ic_S_le (ic_b_le w) 32
theorem ic_one : ∀ n, n < 32 → ∀ i, i < 32 → bt ((1 : Int32) <<< (nI n &&& 31)) i = decide (i = n) := by decide +kernel
theorem ic_1 : ∀ i, i < 32 → bt 1 i = decide (i = 0) := by decide +kernel
theorem ic_bit (w : Int32) (c : Nat) (hc : c < 32) : ((w >>> (nI c &&& 31)) &&& 1) = nI (ic_b w c) := by
  apply b_ext
  intro i hi
  rw [b_and, b_sshr c hc w hi, ic_1 i hi]
  by_cases h0 : i = 0
  · subst h0
    rw [if_pos (show c + 0 < 32 from hc), Nat.add_zero]
    cases hb : bt w c
    · rw [ic_b_f hb]; decide
    · rw [ic_b_t hb]; decide
  · rw [decide_eq_false h0, Bool.and_false]
    cases hb : bt w c
    · rw [ic_b_f hb]; exact (b_0 i).symm
    · rw [ic_b_t hb]; exact ((ic_1 i hi).trans (decide_eq_false h0)).symm
theorem ic_bit1 (w : Int32) (c : Nat) (hc : c < 32) : ((w >>> (nI c &&& 31)) &&& 1) = 1 ↔ bt w c = true := by
  rw [ic_bit w c hc]
  cases hb : bt w c
  · rw [ic_b_f hb]; decide
  · rw [ic_b_t hb]; decide
theorem ic_S_or {a b : Int32} (h : ∀ c, bt a c = true → bt b c = false) : ∀ n, ic_S (ic_b (a ||| b)) n = ic_S (ic_b a) n + ic_S (ic_b b) n := by
  intro n
  rw [← ic_S_plus]
  refine ic_S_ext n (fun i _ => ?_)
  cases ha : bt a i
  · cases hb : bt b i
    · rw [ic_b_f ha, ic_b_f hb, ic_b_f (by rw [b_or, ha, hb]; rfl)]
    · rw [ic_b_f ha, ic_b_t hb, ic_b_t (by rw [b_or, ha, hb]; rfl)]
  · rw [ic_b_t ha, ic_b_f (h i ha), ic_b_t (by rw [b_or, ha]; rfl)]
theorem ic_pop_or {a b : Int32} (h : ∀ c, bt a c = true → bt b c = false) : ic_pop (a ||| b) = ic_pop a + ic_pop b := ic_S_or h 32
/-- what is known already adds nothing -/
theorem ic_known {x y : Int64} (h : (x &&& (y ^^^ (-1))) = 0) : y ||| x = y := by
  apply Int64.toBitVec_inj.mp
  have h' : x.toBitVec &&& (y.toBitVec ^^^ (-1 : Int64).toBitVec) = (0 : Int64).toBitVec := by
    rw [← Int64.toBitVec_xor, ← Int64.toBitVec_and, h]
  rw [Int64.toBitVec_or]
  apply BitVec.eq_of_getLsbD_eq
  intro i hi
  have hm : ∀ i, i < 64 → (-1 : Int64).toBitVec.getLsbD i = true := by decide +kernel
  have hz : ∀ i, i < 64 → (0 : Int64).toBitVec.getLsbD i = false := by decide +kernel
  have hb : (x.toBitVec &&& (y.toBitVec ^^^ (-1 : Int64).toBitVec)).getLsbD i = false := by rw [h']; exact hz i hi
  rw [BitVec.getLsbD_and, BitVec.getLsbD_xor, hm i hi] at hb
  rw [BitVec.getLsbD_or]
  revert hb
  cases x.toBitVec.getLsbD i <;> cases y.toBitVec.getLsbD i <;> decide
theorem ic_updL_same (f : Nat → Int64) (k : Nat) {x : Int64} (h : x = f k) : vp_updL f k x = f := by
  funext j
  by_cases e : j = k
  · subst e; rw [pk_uLs, h]
  · exact pk_uLn e
theorem ic_nb0 : vp_nar .boolean 0 = 0 := by rfl
theorem ic_nb1 : vp_nar .boolean 1 = 1 := by rfl
