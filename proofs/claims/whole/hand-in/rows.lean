section
theorem pk_us {f : Nat → Int32} {k : Nat} {x : Int32} : upd f k x k = x := if_pos rfl
theorem pk_un {f : Nat → Int32} {k j : Nat} {x : Int32} (h : j ≠ k) : upd f k x j = f j := if_neg h
theorem pk_uLs {f : Nat → Int64} {k : Nat} {x : Int64} : vp_updL f k x k = x := if_pos rfl
theorem pk_uLn {f : Nat → Int64} {k j : Nat} {x : Int64} (h : j ≠ k) : vp_updL f k x j = f j := if_neg h
theorem pk_sub {a b : Nat} (h : b ≤ a) : nI a - nI b = nI (a - b) := by
  obtain ⟨c, rfl⟩ : ∃ c, a = c + b := ⟨a - b, by omega⟩
  rw [← nI_add, Int32.add_sub_cancel, Nat.add_sub_cancel]
theorem pk_m1 (n : Nat) : nI (n + 1) + (-1) = nI n := by
  rw [← nI_1, Int32.add_assoc, show (1 : Int32) + (-1) = 0 from rfl, Int32.add_zero]
theorem pk_mul (a b : Nat) : nI a * nI b = nI (a * b) := (Int32.ofNat_mul a b).symm
theorem pk_div {a d : Nat} (ha : a < 2 ^ 31) (h0 : 0 < d) (hd : d < 2 ^ 31) : nI a / nI d = nI (a / d) := by
  apply Int32.toInt_inj.mp
  rw [lg_idiv_nonneg (by rw [nI_toInt ha]; omega) (by rw [nI_toInt hd]; omega), nI_toInt ha, nI_toInt hd, nI_toInt (Nat.lt_of_le_of_lt (Nat.div_le_self a d) ha)]
  first | rfl | exact (Int.natCast_ediv _ _).symm
theorem pk_rem {a d : Nat} (ha : a < 2 ^ 31) (h0 : 0 < d) (hd : d < 2 ^ 31) : nI a - nI a / nI d * nI d = nI (a % d) := by
  rw [pk_div ha h0 hd, pk_mul, pk_sub (Nat.div_mul_le_self a d)]
  exact congrArg nI (by have := Nat.div_add_mod' a d; omega)
theorem pk_sub_toInt {a b : Nat} (ha : a < 2 ^ 30) (hb : b < 2 ^ 30) : (nI a - nI b).toInt = (a : Int) - b := by
  rw [Int32.toInt_sub, nI_toInt (by omega), nI_toInt (by omega)]
  exact Int.bmod_eq_of_le (by omega) (by omega)
theorem pk_sneg {a b : Nat} (hb : b < 2 ^ 30) (h : a < b) : nI a - nI b < 0 := by
  rw [Int32.lt_iff_toInt_lt, pk_sub_toInt (by omega) hb, show (0 : Int32).toInt = 0 from by decide]
  omega
theorem pk_ix (x : Int32) {n : Nat} (hn : n < 2 ^ 31) : x < 0 ∨ nI n ≤ x ∨ ∃ j : Nat, j < n ∧ x = nI j := by
  by_cases h : x < 0
  · exact Or.inl h
  · obtain ⟨j, hj, rfl⟩ := nI_of h
    by_cases h2 : j < n
    · exact Or.inr (Or.inr ⟨j, h2, rfl⟩)
    · exact Or.inr (Or.inl (nI_le (by omega) hj))
theorem pk_le {x y : Int32} {A B : Prop} (a b : Nat) (f : a ≤ b → A) (g : b < a → B) (hx : x = nI a := by rfl) (hy : y = nI b := by rfl) (ha : a < 2 ^ 31 := by omega) (hb : b < 2 ^ 31 := by omega) : (x ≤ y → A) ∧ (¬ x ≤ y → B) := by
  subst hx hy
  rw [nI_leI ha hb]
  exact ⟨f, fun z => g (by omega)⟩
theorem pk_lt {x y : Int32} {A B : Prop} (a b : Nat) (f : a < b → A) (g : b ≤ a → B) (hx : x = nI a := by rfl) (hy : y = nI b := by rfl) (ha : a < 2 ^ 31 := by omega) (hb : b < 2 ^ 31 := by omega) : (x < y → A) ∧ (¬ x < y → B) := by
  subst hx hy
  rw [nI_ltI ha hb]
  exact ⟨f, fun z => g (by omega)⟩
theorem pk_eq {x y : Int32} {A B : Prop} (a b : Nat) (f : a = b → A) (g : a ≠ b → B) (hx : x = nI a := by rfl) (hy : y = nI b := by rfl) (ha : a < 2 ^ 31 := by omega) (hb : b < 2 ^ 31 := by omega) : (x = y → A) ∧ (¬ x = y → B) := by
  subst hx hy
  rw [nI_eq ha hb]
  exact ⟨f, g⟩
theorem pk_in {x : Int32} (n N : Nat) (h : n < N) (hx : x = nI n := by rfl) (hN : N < 2 ^ 31 := by omega) : vp_in x N := by
  subst hx
  exact vp_in_nI h hN
theorem pk_cl {x : Int32} (n : Nat) (hx : x = nI n := by rfl) (h : n < 2 ^ 31 := by omega) : x.toNatClampNeg = n := by
  subst hx
  exact nI_clamp h
/-! ===== Int32 by its bits: bt x i ===== -/
def bt (x : Int32) (i : Nat) : Bool := x.toBitVec.getLsbD i
theorem b_ext {x y : Int32} (h : ∀ i, i < 32 → bt x i = bt y i) : x = y := Int32.toBitVec_inj.mp (BitVec.eq_of_getLsbD_eq (fun i hi => h i hi))
theorem b_or (x y : Int32) (i : Nat) : bt (x ||| y) i = (bt x i || bt y i) := by unfold bt; rw [Int32.toBitVec_or, BitVec.getLsbD_or]
theorem b_and (x y : Int32) (i : Nat) : bt (x &&& y) i = (bt x i && bt y i) := by unfold bt; rw [Int32.toBitVec_and, BitVec.getLsbD_and]
theorem b_xor (x y : Int32) (i : Nat) : bt (x ^^^ y) i = (bt x i ^^ bt y i) := by unfold bt; rw [Int32.toBitVec_xor, BitVec.getLsbD_xor]
theorem b_big {x : Int32} {i : Nat} (h : 32 ≤ i) : bt x i = false := BitVec.getLsbD_of_ge _ _ h
theorem b_255 (i : Nat) : bt 255 i = decide (i < 8) := by
  rcases Nat.lt_or_ge i 32 with h | h
  · exact (by decide +kernel : ∀ i, i < 32 → bt 255 i = decide (i < 8)) i h
  · rw [b_big h, decide_eq_false (by omega)]
theorem b_65535 (i : Nat) : bt 65535 i = decide (i < 16) := by
  rcases Nat.lt_or_ge i 32 with h | h
  · exact (by decide +kernel : ∀ i, i < 32 → bt 65535 i = decide (i < 16)) i h
  · rw [b_big h, decide_eq_false (by omega)]
theorem b_m1 : ∀ i, i < 32 → bt (-1) i = true := by decide +kernel
theorem b_0 (i : Nat) : bt 0 i = false := BitVec.getLsbD_zero
theorem s_l : ∀ n, n < 32 → ((nI n &&& 31).toBitVec.smod 32).toNat = n := by decide +kernel
theorem s_u : ∀ n, n < 32 → (((nI n).toUInt32 &&& Int32.toUInt32 31).toBitVec % 32).toNat = n := by decide +kernel
theorem b_shl (n : Nat) (hn : n < 32) (x : Int32) {i : Nat} (hi : i < 32) : bt (x <<< (nI n &&& 31)) i = (decide (n ≤ i) && bt x (i - n)) := by
  unfold bt
  rw [Int32.toBitVec_shiftLeft]
  show (x.toBitVec <<< ((nI n &&& 31).toBitVec.smod 32).toNat).getLsbD i = _
  rw [s_l n hn, BitVec.getLsbD_shiftLeft]
  rcases Nat.lt_or_ge i n with h | h
  · simp [h, Nat.not_le.mpr h]
  · simp [hi, h, Nat.not_lt.mpr h]
theorem b_ushr (n : Nat) (hn : n < 32) (x : Int32) (i : Nat) : bt ((x.toUInt32 >>> ((nI n).toUInt32 &&& Int32.toUInt32 31)).toInt32) i = bt x (n + i) := by
  show (x.toUInt32 >>> ((nI n).toUInt32 &&& Int32.toUInt32 31)).toBitVec.getLsbD i = x.toUInt32.toBitVec.getLsbD (n + i)
  rw [UInt32.toBitVec_shiftRight]
  show (x.toUInt32.toBitVec >>> (((nI n).toUInt32 &&& Int32.toUInt32 31).toBitVec % 32).toNat).getLsbD i = _
  rw [s_u n hn, BitVec.getLsbD_ushiftRight]
theorem b_sshr (n : Nat) (hn : n < 32) (x : Int32) {i : Nat} (hi : i < 32) : bt (x >>> (nI n &&& 31)) i = if n + i < 32 then bt x (n + i) else bt x 31 := by
  unfold bt
  rw [Int32.toBitVec_shiftRight]
  show (x.toBitVec.sshiftRight ((nI n &&& 31).toBitVec.smod 32).toNat).getLsbD i = _
  rw [s_l n hn, BitVec.getLsbD_sshiftRight, BitVec.msb_eq_getLsbD_last]
  simp [hi]
end
section
/-! sums over an initial stretch -/
def ic_S (f : Nat → Nat) : Nat → Nat
  | 0 => 0
  | n + 1 => ic_S f n + f n
theorem ic_S_ext {f g : Nat → Nat} : ∀ n, (∀ i, i < n → f i = g i) → ic_S f n = ic_S g n := by
  intro n
  induction n with
  | zero => intro _; rfl
  | succ n ih =>
    intro h
    show ic_S f n + f n = ic_S g n + g n
    rw [ih (fun i hi => h i (by omega)), h n (by omega)]
theorem ic_S_add (f : Nat → Nat) (a : Nat) : ∀ b, ic_S f (a + b) = ic_S f a + ic_S (fun i => f (a + i)) b := by
  intro b
  induction b with
  | zero => rfl
  | succ b ih =>
    show ic_S f (a + b) + f (a + b) = ic_S f a + (ic_S (fun i => f (a + i)) b + f (a + b))
    omega
theorem ic_S_plus (f g : Nat → Nat) : ∀ n, ic_S (fun i => f i + g i) n = ic_S f n + ic_S g n := by
  intro n
  induction n with
  | zero => rfl
  | succ n ih =>
    show ic_S (fun i => f i + g i) n + (f n + g n) = ic_S f n + f n + (ic_S g n + g n)
    omega
theorem ic_S_zero : ∀ n, ic_S (fun _ => 0) n = 0 := by
  intro n
  induction n with
  | zero => rfl
  | succ n ih => exact ih
theorem ic_S_swap (g : Nat → Nat → Nat) (n : Nat) : ∀ m, ic_S (fun y => ic_S (fun x => g x y) n) m = ic_S (fun x => ic_S (fun y => g x y) m) n := by
  intro m
  induction m with
  | zero => exact (ic_S_zero n).symm
  | succ m ih =>
    show ic_S (fun y => ic_S (fun x => g x y) n) m + ic_S (fun x => g x m) n = ic_S (fun x => ic_S (fun y => g x y) m + g x m) n
    rw [ih, ic_S_plus]
theorem ic_S_cut (f : Nat → Nat) (y : Nat) : ∀ d, ic_S (fun x => if x < y then f x else 0) (y + d) = ic_S f y := by
  intro d
  induction d with
  | zero => exact ic_S_ext y (fun i hi => if_pos hi)
  | succ d ih =>
    show ic_S (fun x => if x < y then f x else 0) (y + d) + (if y + d < y then f (y + d) else 0) = _
    rw [ih, if_neg (by omega)]
    rfl
theorem ic_S_rows (F : Nat → Nat) (w : Nat) : ∀ m, ic_S F (w * m) = ic_S (fun x => ic_S (fun y => F (w * x + y)) w) m := by
  intro m
  induction m with
  | zero => rfl
  | succ m ih =>
    show ic_S F (w * m + w) = ic_S (fun x => ic_S (fun y => F (w * x + y)) w) m + ic_S (fun y => F (w * m + y)) w
    rw [ic_S_add, ih]
theorem ic_S_le {f : Nat → Nat} (h : ∀ i, f i ≤ 1) : ∀ n, ic_S f n ≤ n := by
  intro n
  induction n with
  | zero => exact Nat.le_refl 0
  | succ n ih =>
    have := h n
    show ic_S f n + f n ≤ n + 1
    omega
/-- the pairs below the diagonal, by columns and by rows of sixteen -/
theorem ic_S_pairs (f : Nat → Nat → Nat) : ic_S (fun y => ic_S (fun x => f x y) y) 16 = ic_S (fun c => if c / 16 < c % 16 then f (c / 16) (c % 16) else 0) 256 := by
  have h1 : ic_S (fun y => ic_S (fun x => f x y) y) 16 = ic_S (fun y => ic_S (fun x => if x < y then f x y else 0) 16) 16 := by
    refine ic_S_ext 16 (fun y hy => ?_)
    have h := ic_S_cut (fun x => f x y) y (16 - y)
    rw [show y + (16 - y) = 16 from by omega] at h
    exact h.symm
  have h2 : ic_S (fun c => if c / 16 < c % 16 then f (c / 16) (c % 16) else 0) (16 * 16) = ic_S (fun x => ic_S (fun y => if x < y then f x y else 0) 16) 16 := by
    rw [ic_S_rows]
    refine ic_S_ext 16 (fun x hx => ic_S_ext 16 (fun y hy => ?_))
    show (if (16 * x + y) / 16 < (16 * x + y) % 16 then f ((16 * x + y) / 16) ((16 * x + y) % 16) else 0) = _
    rw [show (16 * x + y) / 16 = x from by omega, show (16 * x + y) % 16 = y from by omega]
  rw [h1, ic_S_swap (fun x y => if x < y then f x y else 0) 16 16]
  exact h2.symm
/-! the number of bits -/
def ic_b (w : Int32) (i : Nat) : Nat := if bt w i = true then 1 else 0
theorem ic_b_t {w : Int32} {i : Nat} (h : bt w i = true) : ic_b w i = 1 := if_pos h
theorem ic_b_f {w : Int32} {i : Nat} (h : bt w i = false) : ic_b w i = 0 := if_neg (by rw [h]; decide)
theorem ic_b_le (w : Int32) (i : Nat) : ic_b w i ≤ 1 := by
  unfold ic_b
  split <;> omega
def ic_pop (w : Int32) : Nat := ic_S (ic_b w) 32
theorem ic_pop_le (w : Int32) : ic_pop w ≤ 32 := ic_S_le (ic_b_le w) 32
theorem ic_one : ∀ n, n < 32 → ∀ i, i < 32 → bt ((1 : Int32) <<< (nI n &&& 31)) i = decide (i = n) := by decide +kernel
theorem ic_1 : ∀ i, i < 32 → bt 1 i = decide (i = 0) := by decide +kernel
theorem ic_bit (w : Int32) (c : Nat) (hc : c < 32) : ((w >>> (nI c &&& 31)) &&& 1) = nI (ic_b w c) := by
  apply b_ext
  intro i hi
  rw [b_and, b_sshr c hc w hi, ic_1 i hi]
  by_cases h0 : i = 0
  · subst h0
    rw [if_pos (show c + 0 < 32 from hc), Nat.add_zero]
    cases hb : bt w c
    · rw [ic_b_f hb]; decide
    · rw [ic_b_t hb]; decide
  · rw [decide_eq_false h0, Bool.and_false]
    cases hb : bt w c
    · rw [ic_b_f hb]; exact (b_0 i).symm
    · rw [ic_b_t hb]; exact ((ic_1 i hi).trans (decide_eq_false h0)).symm
theorem ic_bit1 (w : Int32) (c : Nat) (hc : c < 32) : ((w >>> (nI c &&& 31)) &&& 1) = 1 ↔ bt w c = true := by
  rw [ic_bit w c hc]
  cases hb : bt w c
  · rw [ic_b_f hb]; decide
  · rw [ic_b_t hb]; decide
theorem ic_S_or {a b : Int32} (h : ∀ c, bt a c = true → bt b c = false) : ∀ n, ic_S (ic_b (a ||| b)) n = ic_S (ic_b a) n + ic_S (ic_b b) n := by
  intro n
  rw [← ic_S_plus]
  refine ic_S_ext n (fun i _ => ?_)
  cases ha : bt a i
  · cases hb : bt b i
    · rw [ic_b_f ha, ic_b_f hb, ic_b_f (by rw [b_or, ha, hb]; rfl)]
    · rw [ic_b_f ha, ic_b_t hb, ic_b_t (by rw [b_or, ha, hb]; rfl)]
  · rw [ic_b_t ha, ic_b_f (h i ha), ic_b_t (by rw [b_or, ha]; rfl)]
theorem ic_pop_or {a b : Int32} (h : ∀ c, bt a c = true → bt b c = false) : ic_pop (a ||| b) = ic_pop a + ic_pop b := ic_S_or h 32
/-- what is known already adds nothing -/
theorem ic_known {x y : Int64} (h : (x &&& (y ^^^ (-1))) = 0) : y ||| x = y := by
  apply Int64.toBitVec_inj.mp
  have h' : x.toBitVec &&& (y.toBitVec ^^^ (-1 : Int64).toBitVec) = (0 : Int64).toBitVec := by
    rw [← Int64.toBitVec_xor, ← Int64.toBitVec_and, h]
  rw [Int64.toBitVec_or]
  apply BitVec.eq_of_getLsbD_eq
  intro i hi
  have hm : ∀ i, i < 64 → (-1 : Int64).toBitVec.getLsbD i = true := by decide +kernel
  have hz : ∀ i, i < 64 → (0 : Int64).toBitVec.getLsbD i = false := by decide +kernel
  have hb : (x.toBitVec &&& (y.toBitVec ^^^ (-1 : Int64).toBitVec)).getLsbD i = false := by rw [h']; exact hz i hi
  rw [BitVec.getLsbD_and, BitVec.getLsbD_xor, hm i hi] at hb
  rw [BitVec.getLsbD_or]
  revert hb
  cases x.toBitVec.getLsbD i <;> cases y.toBitVec.getLsbD i <;> decide
theorem ic_updL_same (f : Nat → Int64) (k : Nat) {x : Int64} (h : x = f k) : vp_updL f k x = f := by
  funext j
  by_cases e : j = k
  · subst e; rw [pk_uLs, h]
  · exact pk_uLn e
theorem ic_nb0 : vp_nar .boolean 0 = 0 := by rfl
theorem ic_nb1 : vp_nar .boolean 1 = 1 := by rfl
end
section
/-! the small methods: one answer, for every post, on both sides -/
theorem ic_cl {j : Nat} (hj : j < 16) : (nI j).toNatClampNeg = j := nI_clamp (by omega)
theorem ic_in16 {j : Nat} (hj : j < 16) : vp_in (nI j) 16 := vp_in_nI hj (by decide)
theorem ic_in8 {j : Nat} (hj : j < 8) : vp_in (nI j) 8 := vp_in_nI hj (by decide)
theorem ic_n8 {j : Nat} (hj : j < 8) : ¬ (8 : Int32) ≤ nI j := nI_ge (b := 8) hj (by decide)
theorem ic_n16 {j : Nat} (hj : j < 16) : ¬ (16 : Int32) ≤ nI j := nI_ge (b := 16) hj (by decide)
theorem ic_n7 {j : Nat} (hj : j < 8) : ¬ (7 : Int32) < nI j := nI_nlt (a := 7) (b := j) (by omega) (by decide)
theorem ic_n15 {j : Nat} (hj : j < 16) : ¬ (15 : Int32) < nI j := nI_nlt (a := 15) (b := j) (by omega) (by decide)
theorem ic_n0 {j : Nat} (hj : j < 16) : ¬ nI j < 0 := nI_pos (by omega)
theorem ic_g0 {x : Int32} (h : (8 : Int32) ≤ x) : ¬ x < 0 := Int32.not_lt.mpr (Int32.le_trans (by decide) h)
theorem ic_g7 {x : Int32} (h : (8 : Int32) ≤ x) : (7 : Int32) < x := Int32.lt_of_lt_of_le (by decide) h
theorem ic_h0 {x : Int32} (h : (16 : Int32) ≤ x) : ¬ x < 0 := Int32.not_lt.mpr (Int32.le_trans (by decide) h)
theorem ic_h15 {x : Int32} (h : (16 : Int32) ≤ x) : (15 : Int32) < x := Int32.lt_of_lt_of_le (by decide) h
theorem ic_8n {j : Nat} : (8 : Int32) + nI j = nI (8 + j) := nI_add 8 j
theorem ic_party (c : Int32) (p : Nat → Int32) (l h : Nat → Int64) (q g : Nat → Int32) (x : Int32) :
    ((∀ post : Int32 → Prop, post 0 → wpX_isParty post (c, p, l, h, q) x) ∧ (∀ post : Int32 → Prop, post 0 → wpY_party post (c, p, l, h, g) x)) ∨
    (∃ j, j < 8 ∧ x = nI j ∧ p j ≠ 0 ∧ (∀ post : Int32 → Prop, post 1 → wpX_isParty post (c, p, l, h, q) (nI j)) ∧ (∀ post : Int32 → Prop, post 1 → wpY_party post (c, p, l, h, g) (nI j))) := by
  rcases pk_ix x (n := 8) (by decide) with hx | hx | ⟨j, hj, rfl⟩
  · exact Or.inl ⟨fun _ hp => br_t hx hp, fun _ hp => br_t hx hp⟩
  · exact Or.inl ⟨fun _ hp => br_f (ic_g0 hx) (br_t hx hp), fun _ hp => br_f (ic_g0 hx) (br_t (ic_g7 hx) hp)⟩
  · have e : (nI j).toNatClampNeg = j := ic_cl (by omega)
    have h0 := ic_n0 (j := j) (by omega)
    have hi := ic_in16 (j := j) (by omega)
    by_cases z : p j = 0
    · have z' : p (nI j).toNatClampNeg = 0 := by rw [e]; exact z
      exact Or.inl ⟨fun _ hp => br_f h0 (br_f (ic_n8 hj) ⟨hi, br_t z' hp⟩), fun _ hp => br_f h0 (br_f (ic_n7 hj) ⟨hi, br_t z' hp⟩)⟩
    · have z' : ¬ p (nI j).toNatClampNeg = 0 := by rw [e]; exact z
      exact Or.inr ⟨j, hj, rfl, z, fun _ hp => br_f h0 (br_f (ic_n8 hj) ⟨hi, br_f z' hp⟩), fun _ hp => br_f h0 (br_f (ic_n7 hj) ⟨hi, br_f z' hp⟩)⟩
theorem ic_there (c : Int32) (p : Nat → Int32) (l h : Nat → Int64) (q g : Nat → Int32) (x : Int32) :
    ((∀ post : Int32 → Prop, post 0 → wpX_isThere post (c, p, l, h, q) x) ∧ (∀ post : Int32 → Prop, post 0 → wpY_is post (c, p, l, h, g) x)) ∨
    (∃ j, j < 16 ∧ x = nI j ∧ p j ≠ 0 ∧ (∀ post : Int32 → Prop, post 1 → wpX_isThere post (c, p, l, h, q) (nI j)) ∧ (∀ post : Int32 → Prop, post 1 → wpY_is post (c, p, l, h, g) (nI j))) := by
  rcases pk_ix x (n := 16) (by decide) with hx | hx | ⟨j, hj, rfl⟩
  · exact Or.inl ⟨fun _ hp => br_t hx hp, fun _ hp => br_t hx hp⟩
  · exact Or.inl ⟨fun _ hp => br_f (ic_h0 hx) (br_t hx hp), fun _ hp => br_f (ic_h0 hx) (br_t (ic_h15 hx) hp)⟩
  · have e : (nI j).toNatClampNeg = j := ic_cl (by omega)
    have h0 := ic_n0 (j := j) (by omega)
    have hi := ic_in16 (j := j) (by omega)
    by_cases z : p j = 0
    · have z' : p (nI j).toNatClampNeg = 0 := by rw [e]; exact z
      exact Or.inl ⟨fun _ hp => br_f h0 (br_f (ic_n16 hj) ⟨hi, br_t z' hp⟩), fun _ hp => br_f h0 (br_f (ic_n15 hj) ⟨hi, br_t z' hp⟩)⟩
    · have z' : ¬ p (nI j).toNatClampNeg = 0 := by rw [e]; exact z
      exact Or.inr ⟨j, hj, rfl, z, fun _ hp => br_f h0 (br_f (ic_n16 hj) ⟨hi, br_f z' hp⟩), fun _ hp => br_f h0 (br_f (ic_n15 hj) ⟨hi, br_f z' hp⟩)⟩
/-- 1 if what i knows is known to j too -/
def ic_B (l h : Nat → Int64) (i j : Nat) : Int32 := if (l i &&& (l j ^^^ (-1))) = 0 then (if (h i &&& (h j ^^^ (-1))) = 0 then 1 else 0) else 0
theorem ic_B01 (l h : Nat → Int64) (i j : Nat) : ic_B l h i j = 0 ∨ ic_B l h i j = 1 := by
  unfold ic_B
  split
  · split
    · exact Or.inr rfl
    · exact Or.inl rfl
  · exact Or.inl rfl
theorem ic_B1 {l h : Nat → Int64} {i j : Nat} (e : ic_B l h i j ≠ 0) : (l i &&& (l j ^^^ (-1))) = 0 ∧ (h i &&& (h j ^^^ (-1))) = 0 := by
  unfold ic_B at e
  by_cases h1 : (l i &&& (l j ^^^ (-1))) = 0
  · by_cases h2 : (h i &&& (h j ^^^ (-1))) = 0
    · exact ⟨h1, h2⟩
    · rw [if_pos h1, if_neg h2] at e; exact absurd rfl e
  · rw [if_neg h1] at e; exact absurd rfl e
theorem ic_xB (c : Int32) (p : Nat → Int32) (l h : Nat → Int64) (q : Nat → Int32) {i j : Nat} (hi : i < 16) (hj : j < 16) (post : Int32 → Prop) (hp : post (ic_B l h i j)) : wpX_isBehind post (c, p, l, h, q) (nI i) (nI j) := by
  unfold wpX_isBehind
  dsimp only
  rw [ic_cl hi, ic_cl hj]
  unfold ic_B at hp
  refine ⟨ic_in16 hi, ic_in16 hj, ?_⟩
  by_cases h1 : (l i &&& (l j ^^^ (-1))) = 0
  · rw [if_pos h1] at hp
    refine br_t h1 ⟨ic_in16 hi, ic_in16 hj, ?_⟩
    by_cases h2 : (h i &&& (h j ^^^ (-1))) = 0
    · rw [if_pos h2] at hp; exact br_t h2 hp
    · rw [if_neg h2] at hp; exact br_f h2 hp
  · rw [if_neg h1] at hp; exact br_f h1 hp
theorem ic_yB (c : Int32) (p : Nat → Int32) (l h : Nat → Int64) (g : Nat → Int32) {i j : Nat} (hi : i < 16) (hj : j < 16) (post : Int32 → Prop) (hp : post (ic_B l h i j)) : wpY_follows post (c, p, l, h, g) (nI i) (nI j) := by
  unfold wpY_follows
  dsimp only
  rw [ic_cl hi, ic_cl hj]
  unfold ic_B at hp
  refine ⟨ic_in16 hi, ic_in16 hj, ?_⟩
  by_cases h1 : (l i &&& (l j ^^^ (-1))) = 0
  · rw [if_pos h1] at hp
    refine br_t h1 ⟨ic_in16 hi, ic_in16 hj, ?_⟩
    by_cases h2 : (h i &&& (h j ^^^ (-1))) = 0
    · rw [if_pos h2] at hp; exact br_t h2 hp
    · rw [if_neg h2] at hp; exact br_f h2 hp
  · rw [if_neg h1] at hp; exact br_f h1 hp
/-- how i stands to j -/
def ic_st (l h : Nat → Int64) (i j : Nat) : Int32 := if ic_B l h i j = 0 then (if ic_B l h j i = 0 then 3 else 2) else (if ic_B l h j i = 0 then 1 else 0)
theorem ic_xst (c : Int32) (p : Nat → Int32) (l h : Nat → Int64) (q : Nat → Int32) {i j : Nat} (hi : i < 16) (hj : j < 16) (post : Int32 → Prop) (hp : post (ic_st l h i j)) : wpX_standing post (c, p, l, h, q) (nI i) (nI j) := by
  unfold wpX_standing
  dsimp only
  unfold ic_st at hp
  refine ic_xB c p l h q hi hj _ (ic_xB c p l h q hj hi _ ?_)
  by_cases h1 : ic_B l h i j = 0
  · rw [if_pos h1] at hp
    refine br_t h1 (br_t h1 ?_)
    by_cases h2 : ic_B l h j i = 0
    · rw [if_pos h2] at hp; exact br_t h2 hp
    · rw [if_neg h2] at hp; exact br_f h2 hp
  · rw [if_neg h1] at hp
    refine br_f h1 ?_
    by_cases h2 : ic_B l h j i = 0
    · rw [if_pos h2] at hp; exact br_t h2 (br_f h1 hp)
    · rw [if_neg h2] at hp; exact br_f h2 hp
/-- the answer of compare -/
def ic_cp (p : Nat → Int32) (l h : Nat → Int64) (i j : Nat) : Int32 := if p i = 0 then -1 else if p j = 0 then -1 else ic_st l h i j
theorem ic_yis (c : Int32) (p : Nat → Int32) (l h : Nat → Int64) (g : Nat → Int32) {i : Nat} (hi : i < 16) (post : Int32 → Prop) (h0 : p i = 0 → post 0) (h1 : p i ≠ 0 → post 1) : wpY_is post (c, p, l, h, g) (nI i) := by
  unfold wpY_is
  dsimp only
  rw [ic_cl hi]
  exact br_f (ic_n0 hi) (br_f (ic_n15 hi) ⟨ic_in16 hi, br_c h0 h1⟩)
theorem ic_yfol (c : Int32) (p : Nat → Int32) (l h : Nat → Int64) (g : Nat → Int32) {i j : Nat} (hi : i < 16) (hj : j < 16) (post : Int32 → Prop) (hp : post (ic_st l h i j)) :
    wpY_follows (fun r_15 => (wpY_follows (fun r_21 => (((r_15 = 0 → (wY_compare_46 post r_15 r_21 c p l h g)) ∧ (¬ r_15 = 0 → (((r_21 = 0 → (wY_compare_46 post r_15 r_21 c p l h g)) ∧ (¬ r_21 = 0 → (post 0)))))))) (c, p, l, h, g) (nI j) (nI i))) (c, p, l, h, g) (nI i) (nI j) := by
  unfold ic_st at hp
  refine ic_yB c p l h g hi hj _ (ic_yB c p l h g hj hi _ ?_)
  by_cases h1 : ic_B l h i j = 0
  · rw [if_pos h1] at hp
    refine br_t h1 (br_t h1 ?_)
    by_cases h2 : ic_B l h j i = 0
    · rw [if_pos h2] at hp; exact br_t h2 hp
    · rw [if_neg h2] at hp; exact br_f h2 hp
  · rw [if_neg h1] at hp
    refine br_f h1 ?_
    by_cases h2 : ic_B l h j i = 0
    · rw [if_pos h2] at hp; exact br_t h2 (br_f h1 hp)
    · rw [if_neg h2] at hp; exact br_f h2 hp
theorem ic_ycp (c : Int32) (p : Nat → Int32) (l h : Nat → Int64) (g : Nat → Int32) {i j : Nat} (hi : i < 16) (hj : j < 16) (post : Int32 → Prop) (hp : post (ic_cp p l h i j)) : wpY_compare post (c, p, l, h, g) (nI i) (nI j) := by
  unfold wpY_compare
  dsimp only
  unfold ic_cp at hp
  refine ic_yis c p l h g hi _ (fun z => ?_) (fun z => ?_)
  · rw [if_pos z] at hp; exact br_t rfl hp
  · rw [if_neg z] at hp
    refine br_f (by decide) (ic_yis c p l h g hj _ (fun y => ?_) (fun y => ?_))
    · rw [if_pos y] at hp; exact br_t rfl hp
    · rw [if_neg y] at hp; exact br_f (by decide) (ic_yfol c p l h g hi hj post hp)
/-! writing what is known -/
theorem ic_xcopy (c : Int32) (p : Nat → Int32) (l h : Nat → Int64) (q : Nat → Int32) {i j : Nat} (hi : i < 16) (hj : j < 16) (post : SX → Prop) (hp : post (c, p, vp_updL l j (l i), vp_updL h j (h i), q)) : wpX_copyKnowledge post (c, p, l, h, q) (nI i) (nI j) := by
  unfold wpX_copyKnowledge
  dsimp only
  rw [ic_cl hi, ic_cl hj]
  exact ⟨ic_in16 hi, ic_in16 hj, nm_e ⟨ic_in16 hi, ic_in16 hj, nm_e hp⟩⟩
theorem ic_xlearn (c : Int32) (p : Nat → Int32) (l h : Nat → Int64) (q : Nat → Int32) {i j : Nat} (hi : i < 16) (hj : j < 16) (post : SX → Prop) (hp : post (c, p, vp_updL l j (l j ||| l i), vp_updL h j (h j ||| h i), q)) : wpX_learn post (c, p, l, h, q) (nI i) (nI j) := by
  unfold wpX_learn
  dsimp only
  rw [ic_cl hi, ic_cl hj]
  exact ⟨ic_in16 hj, ic_in16 hi, ic_in16 hj, nm_e ⟨ic_in16 hj, ic_in16 hi, ic_in16 hj, nm_e hp⟩⟩
/-! the count of a set of cells -/
theorem ic_cnt_go (c : Int32) (p : Nat → Int32) (l h : Nat → Int64) (g : Nat → Int32) (w : Int32) (post : Int32 → Prop) (hp : post (nI (ic_pop w))) : ∀ d i, i + d = 32 → wY_count_4 post w c p l h g (d + 1) (nI (ic_S (ic_b w) i)) (nI i) := by
  intro d
  induction d with
  | zero =>
    intro i hi
    have e : i = 32 := by omega
    subst e
    exact br_t (nI_le (a := 32) (b := 32) (by omega) (by decide)) hp
  | succ d ih =>
    intro i hi
    refine br_f (nI_ge (a := i) (b := 32) (by omega) (by decide)) (nm_r (e' := nI (ic_S (ic_b w) (i + 1))) ?_ (nm_r (nI_1 i) (ih (i + 1) (by omega))))
    rw [ic_bit w i (by omega), nI_add]
    rfl
theorem ic_cnt (c : Int32) (p : Nat → Int32) (l h : Nat → Int64) (g : Nat → Int32) (w : Int32) (post : Int32 → Prop) (hp : post (nI (ic_pop w))) : wpY_count post (c, p, l, h, g) w :=
  ⟨33, ic_cnt_go c p l h g w post hp 32 0 rfl⟩
end
section
/-! the relation: all is alike but the cells, of which the component keeps the number -/
def ic_C (p q g : Nat → Int32) : Prop :=
  (∀ i, i < 8 → p i ≠ 0 → q i = nI (ic_pop (g i))) ∧
  (∀ i j, i < 8 → j < 8 → i ≠ j → p i ≠ 0 → p j ≠ 0 → ∀ b, bt (g i) b = true → bt (g j) b = false)
def i_Rel (_ : Nat) (u : SX) (v : SY) : Prop := ∃ (c : Int32) (p : Nat → Int32) (l h : Nat → Int64) (q g : Nat → Int32), u = (c, p, l, h, q) ∧ v = (c, p, l, h, g) ∧ ic_C p q g
theorem ic_mk {k : Nat} {c : Int32} {p : Nat → Int32} {l h : Nat → Int64} {q g : Nat → Int32} (H : ic_C p q g) : i_Rel k (c, p, l, h, q) (c, p, l, h, g) := ⟨c, p, l, h, q, g, rfl, rfl, H⟩
theorem i_up {k : Nat} {u : SX} {v : SY} (h : i_Rel k u v) : i_Rel (k + 3) u v := h
theorem ic_m1 : (32 : Int32) = nI (ic_pop (-1)) := by decide +kernel
theorem i_vc0 : wpX_init (fun u => wpY_init (fun v => i_Rel 0 u v)) := by
  refine nm_e (nm_e (nm_e (nm_e (ic_mk ⟨fun i hi hp => ?_, fun i j hi hj hij hp hp' => ?_⟩))))
  · by_cases e : i = 0
    · subst e; rw [pk_us, pk_us]; exact ic_m1
    · rw [pk_un e] at hp; exact absurd rfl hp
  · by_cases e : i = 0
    · rw [pk_un (by omega)] at hp'; exact absurd rfl hp'
    · rw [pk_un e] at hp; exact absurd rfl hp
/-! slots and present bits -/
theorem ic_slots (c : Int32) (p : Nat → Int32) (l h : Nat → Int64) (q g : Nat → Int32) (f : Nat) (hf : f ≤ 8) : ∀ d i, i + d = 8 → ∀ acc : Int32, ∃ r : Int32,
    (∀ post : Int32 → Prop, post r → wX_presentBits_5 post (nI f) 8 c p l h q (d + 1) acc (nI i)) ∧ (∀ post : Int32 → Prop, post r → wY_slots_4 post (nI f) c p l h g (d + 1) acc (nI i)) := by
  intro d
  induction d with
  | zero =>
    intro i hi acc
    have h8 : (8 : Int32) ≤ nI i := nI_le (a := 8) (by omega) (by omega)
    exact ⟨acc, fun _ hp => br_t h8 hp, fun _ hp => br_t h8 hp⟩
  | succ d ih =>
    intro i hi acc
    have h8 : ¬ (8 : Int32) ≤ nI i := ic_n8 (by omega)
    have hin : vp_in (nI f + nI i) 16 := by rw [nI_add]; exact ic_in16 (by omega)
    by_cases z : p (nI f + nI i).toNatClampNeg = 0
    · obtain ⟨r, hX, hY⟩ := ih (i + 1) (by omega) acc
      exact ⟨r, fun post hp => br_f h8 ⟨hin, br_t z (nm_r (nI_1 i) (hX post hp))⟩, fun post hp => br_f h8 ⟨hin, br_t z (nm_r (nI_1 i) (hY post hp))⟩⟩
    · obtain ⟨r, hX, hY⟩ := ih (i + 1) (by omega) (acc ||| ((1 : Int32) <<< (nI i &&& 31)))
      exact ⟨r, fun post hp => br_f h8 ⟨hin, br_f z (nm_e (nm_r (nI_1 i) (hX post hp)))⟩, fun post hp => br_f h8 ⟨hin, br_f z (nm_e (nm_r (nI_1 i) (hY post hp)))⟩⟩
/-! behind -/
theorem ic_behind (c : Int32) (p : Nat → Int32) (l h : Nat → Int64) (q g : Nat → Int32) (x : Nat) (hx : x < 16) (hpx : p x ≠ 0) : ∀ d i, i + d = 16 → ∀ acc : Int32, ∃ r : Int32,
    (∀ post : Int32 → Prop, post r → wX_behind_14 post (nI x) c p l h q (d + 1) acc (nI i)) ∧ (∀ post : Int32 → Prop, post r → wY_behind_4 post (nI x) c p l h g (d + 1) acc (nI i)) := by
  intro d
  induction d with
  | zero =>
    intro i hi acc
    have h8 : (16 : Int32) ≤ nI i := nI_le (a := 16) (by omega) (by omega)
    exact ⟨acc, fun _ hp => br_t h8 hp, fun _ hp => br_t h8 hp⟩
  | succ d ih =>
    intro i hi acc
    have h8 : ¬ (16 : Int32) ≤ nI i := ic_n16 (by omega)
    have hi16 : i < 16 := by omega
    have hin : vp_in (nI i) 16 := ic_in16 hi16
    have yis : ∀ post : Int32 → Prop, post 1 → wpY_is post (c, p, l, h, g) (nI x) := fun post hp => ic_yis c p l h g hx post (fun z => absurd z hpx) (fun _ => hp)
    have h10 : ¬ (1 : Int32) = 0 := by decide
    by_cases z : p i = 0
    · have z' : p (nI i).toNatClampNeg = 0 := by rw [ic_cl hi16]; exact z
      obtain ⟨r, hX, hY⟩ := ih (i + 1) (by omega) acc
      exact ⟨r, fun post hp => br_f h8 ⟨hin, br_t z' (nm_r (nI_1 i) (hX post hp))⟩,
        fun post hp => br_f h8 (yis _ (br_f h10 ⟨hin, br_t z' (nm_r (nI_1 i) (hY post hp))⟩))⟩
    · have z' : ¬ p (nI i).toNatClampNeg = 0 := by rw [ic_cl hi16]; exact z
      by_cases b : ic_B l h i x = 0
      · obtain ⟨r, hX, hY⟩ := ih (i + 1) (by omega) acc
        exact ⟨r, fun post hp => br_f h8 ⟨hin, br_f z' (ic_xB c p l h q hi16 hx _ (br_t b (nm_r (nI_1 i) (hX post hp))))⟩,
          fun post hp => br_f h8 (yis _ (br_f h10 ⟨hin, br_f z' (ic_yB c p l h g hi16 hx _ (br_t b (nm_r (nI_1 i) (hY post hp))))⟩))⟩
      · obtain ⟨r, hX, hY⟩ := ih (i + 1) (by omega) (acc ||| ((1 : Int32) <<< (nI i &&& 31)))
        exact ⟨r, fun post hp => br_f h8 ⟨hin, br_f z' (ic_xB c p l h q hi16 hx _ (br_f b (nm_e (nm_r (nI_1 i) (hX post hp)))))⟩,
          fun post hp => br_f h8 (yis _ (br_f h10 ⟨hin, br_f z' (ic_yB c p l h g hi16 hx _ (br_f b (nm_e (nm_r (nI_1 i) (hY post hp)))))⟩))⟩
/-! newest -/
/-- the reference's inner loop once the flag is down -/
theorem ic_ydown (c : Int32) (p : Nat → Int32) (l h : Nat → Int64) (g : Nat → Int32) (x : Nat) (post : Int32 → Prop) (J : Int32 → Int32 → Prop) (acc : Int32) (hJ : J acc (nI (x + 1))) : ∀ d i, i + d = 16 → wY_newest_20 post J acc (nI x) c p l h g (d + 1) 0 (nI i) := by
  intro d
  induction d with
  | zero =>
    intro i hi
    have h8 : (16 : Int32) ≤ nI i := nI_le (a := 16) (by omega) (by omega)
    exact br_t h8 (br_t rfl (nm_r (nI_1 x) hJ))
  | succ d ih =>
    intro i hi
    exact br_f (ic_n16 (by omega)) (br_t rfl (nm_r (nI_1 i) (ih (i + 1) (by omega))))
theorem ic_out (c : Int32) (p : Nat → Int32) (l h : Nat → Int64) (q g : Nat → Int32) (x : Nat) (hx : x < 16) : ∀ d i, i + d = 16 → ∃ r : Int32,
    (∀ post : Int32 → Prop, post r → wX_isOutdated_2 post (nI x) c p l h q (d + 1) (nI i)) ∧
    (∀ (post : Int32 → Prop) (J : Int32 → Int32 → Prop) (acc t : Int32), t ≠ 0 → (r = 0 → J (acc ||| ((1 : Int32) <<< (nI x &&& 31))) (nI (x + 1))) → (r ≠ 0 → J acc (nI (x + 1))) → wY_newest_20 post J acc (nI x) c p l h g (d + 1) t (nI i)) := by
  intro d
  induction d with
  | zero =>
    intro i hi
    have h8 : (16 : Int32) ≤ nI i := nI_le (a := 16) (by omega) (by omega)
    exact ⟨0, fun _ hp => br_t h8 hp, fun _ _ _ _ ht h0 _ => br_t h8 (br_f ht (nm_e (nm_r (nI_1 x) (h0 rfl))))⟩
  | succ d ih =>
    intro i hi
    have h8 : ¬ (16 : Int32) ≤ nI i := ic_n16 (by omega)
    have hi16 : i < 16 := by omega
    have hin : vp_in (nI i) 16 := ic_in16 hi16
    have h10 : (1 : Int32) ≠ 0 := by decide
    obtain ⟨r, hX, hY⟩ := ih (i + 1) (by omega)
    by_cases z : p i = 0
    · have z' : p (nI i).toNatClampNeg = 0 := by rw [ic_cl hi16]; exact z
      exact ⟨r, fun post hp => br_f h8 ⟨hin, br_t z' (nm_r (nI_1 i) (hX post hp))⟩,
        fun post J acc t ht h0 h1 => br_f h8 (br_f ht ⟨hin, br_t z' (nm_r (nI_1 i) (hY post J acc 1 h10 h0 h1))⟩)⟩
    · have z' : ¬ p (nI i).toNatClampNeg = 0 := by rw [ic_cl hi16]; exact z
      by_cases b : ic_B l h x i = 0
      · have s : ¬ ic_st l h x i = 1 := by
          unfold ic_st
          rw [if_pos b]
          split <;> decide
        exact ⟨r, fun post hp => br_f h8 ⟨hin, br_f z' (ic_xst c p l h q hx hi16 _ (br_f s (nm_r (nI_1 i) (hX post hp))))⟩,
          fun post J acc t ht h0 h1 => br_f h8 (br_f ht ⟨hin, br_f z' (ic_yB c p l h g hx hi16 _ (br_t b (nm_r (nI_1 i) (hY post J acc 1 h10 h0 h1))))⟩)⟩
      · by_cases b2 : ic_B l h i x = 0
        · have s : ic_st l h x i = 1 := by
            unfold ic_st
            rw [if_neg b, if_pos b2]
          exact ⟨1, fun post hp => br_f h8 ⟨hin, br_f z' (ic_xst c p l h q hx hi16 _ (br_t s hp))⟩,
            fun post J acc t ht h0 h1 => br_f h8 (br_f ht ⟨hin, br_f z' (ic_yB c p l h g hx hi16 _ (br_f b (ic_yB c p l h g hi16 hx _ (br_t b2 (nm_r (nI_1 i) (ic_ydown c p l h g x post J acc (h1 h10) d (i + 1) (by omega)))))))⟩)⟩
        · have s : ¬ ic_st l h x i = 1 := by
            unfold ic_st
            rw [if_neg b, if_neg b2]
            decide
          exact ⟨r, fun post hp => br_f h8 ⟨hin, br_f z' (ic_xst c p l h q hx hi16 _ (br_f s (nm_r (nI_1 i) (hX post hp))))⟩,
            fun post J acc t ht h0 h1 => br_f h8 (br_f ht ⟨hin, br_f z' (ic_yB c p l h g hx hi16 _ (br_f b (ic_yB c p l h g hi16 hx _ (br_f b2 (nm_r (nI_1 i) (hY post J acc 1 h10 h0 h1))))))⟩)⟩
theorem ic_newest (c : Int32) (p : Nat → Int32) (l h : Nat → Int64) (q g : Nat → Int32) : ∀ d i, i + d = 16 → ∀ acc : Int32, ∃ r : Int32,
    (∀ post : Int32 → Prop, post r → wX_newest_4 post c p l h q (d + 1) acc (nI i)) ∧ (∀ post : Int32 → Prop, post r → wY_newest_4 post c p l h g (d + 1) acc (nI i)) := by
  intro d
  induction d with
  | zero =>
    intro i hi acc
    have h8 : (16 : Int32) ≤ nI i := nI_le (a := 16) (by omega) (by omega)
    exact ⟨acc, fun _ hp => br_t h8 hp, fun _ hp => br_t h8 hp⟩
  | succ d ih =>
    intro i hi acc
    have h8 : ¬ (16 : Int32) ≤ nI i := ic_n16 (by omega)
    have hi16 : i < 16 := by omega
    have hin : vp_in (nI i) 16 := ic_in16 hi16
    by_cases z : p i = 0
    · have z' : p (nI i).toNatClampNeg = 0 := by rw [ic_cl hi16]; exact z
      obtain ⟨r, hX, hY⟩ := ih (i + 1) (by omega) acc
      exact ⟨r, fun post hp => br_f h8 ⟨hin, br_t z' (nm_r (nI_1 i) (hX post hp))⟩,
        fun post hp => br_f h8 ⟨hin, nm_r z' ⟨17, ic_ydown c p l h g i post _ acc (hY post hp) 16 0 rfl⟩⟩⟩
    · have z' : ¬ p (nI i).toNatClampNeg = 0 := by rw [ic_cl hi16]; exact z
      obtain ⟨o, oX, oY⟩ := ic_out c p l h q g i hi16 16 0 rfl
      by_cases b : o = 0
      · obtain ⟨r, hX, hY⟩ := ih (i + 1) (by omega) (acc ||| ((1 : Int32) <<< (nI i &&& 31)))
        exact ⟨r, fun post hp => br_f h8 ⟨hin, br_f z' ⟨17, oX _ (br_t b (nm_e (nm_r (nI_1 i) (hX post hp))))⟩⟩,
          fun post hp => br_f h8 ⟨hin, nm_e ⟨17, oY post _ acc _ z' (fun _ => hY post hp) (fun n => absurd b n)⟩⟩⟩
      · obtain ⟨r, hX, hY⟩ := ih (i + 1) (by omega) acc
        exact ⟨r, fun post hp => br_f h8 ⟨hin, br_f z' ⟨17, oX _ (br_f b (nm_r (nI_1 i) (hX post hp)))⟩⟩,
          fun post hp => br_f h8 ⟨hin, nm_e ⟨17, oY post _ acc _ z' (fun n => absurd n b) (fun _ => hY post hp)⟩⟩⟩
end
section
/-! written notes -/
theorem ic_xw (c : Int32) (p : Nat → Int32) (l h : Nat → Int64) (q : Nat → Int32) {n : Nat} (hn : n < 8) (post : Int32 → Prop) (h0 : p (8 + n) = 0 → post 0) (h1 : p (8 + n) ≠ 0 → post 1) : wpX_isWritten post (c, p, l, h, q) (nI n) := by
  unfold wpX_isWritten wpX_isNoteNumber
  dsimp only
  refine br_f (ic_n0 (by omega)) (br_f (ic_n8 hn) (br_f (by decide) ?_))
  rw [ic_8n, ic_cl (j := 8 + n) (by omega)]
  exact ⟨ic_in16 (by omega), br_c h0 h1⟩
theorem ic_xwn (c : Int32) (p : Nat → Int32) (l h : Nat → Int64) (q : Nat → Int32) {x : Int32} (hx : x < 0 ∨ (8 : Int32) ≤ x) (post : Int32 → Prop) (h0 : post 0) : wpX_isWritten post (c, p, l, h, q) x := by
  unfold wpX_isWritten wpX_isNoteNumber
  dsimp only
  rcases hx with hx | hx
  · exact br_t hx (br_t rfl h0)
  · exact br_f (ic_g0 hx) (br_t hx (br_t rfl h0))
/-! everywhere -/
theorem ic_every (c : Int32) (p : Nat → Int32) (l h : Nat → Int64) (q g : Nat → Int32) (n : Nat) (hn : n < 8) : ∀ d i, i + d = 8 → ∃ r : Int32,
    (∀ post : Int32 → Prop, post r → wX_everywhere_12 post (nI n) c p l h q (d + 1) (nI i)) ∧ (∀ post : Int32 → Prop, post r → wY_everywhere_30 post (nI n) c p l h g (d + 1) 1 (nI i)) := by
  intro d
  induction d with
  | zero =>
    intro i hi
    have h8 : (8 : Int32) ≤ nI i := nI_le (a := 8) (by omega) (by omega)
    exact ⟨1, fun _ hp => br_t h8 hp, fun _ hp => br_t h8 ⟨rfl, hp⟩⟩
  | succ d ih =>
    intro i hi
    have h8 : ¬ (8 : Int32) ≤ nI i := ic_n8 (by omega)
    have hi16 : i < 16 := by omega
    have hn16 : 8 + n < 16 := by omega
    have hin : vp_in (nI i) 16 := ic_in16 hi16
    have h10 : ¬ (1 : Int32) = 0 := by decide
    obtain ⟨r, hX, hY⟩ := ih (i + 1) (by omega)
    have xB : ∀ post : Int32 → Prop, post (ic_B l h (8 + n) i) → wpX_isBehind post (c, p, l, h, q) (8 + nI n) (nI i) := fun post hp => by
      rw [ic_8n]; exact ic_xB c p l h q hn16 hi16 post hp
    have yB : ∀ post : Int32 → Prop, post (ic_B l h (8 + n) i) → wpY_follows post (c, p, l, h, g) (8 + nI n) (nI i) := fun post hp => by
      rw [ic_8n]; exact ic_yB c p l h g hn16 hi16 post hp
    by_cases z : p i = 0
    · have z' : p (nI i).toNatClampNeg = 0 := by rw [ic_cl hi16]; exact z
      exact ⟨r, fun post hp => br_f h8 ⟨hin, br_t z' (nm_r (nI_1 i) (hX post hp))⟩,
        fun post hp => br_f h8 (br_f h10 ⟨hin, br_t z' (nm_r (nI_1 i) (hY post hp))⟩)⟩
    · have z' : ¬ p (nI i).toNatClampNeg = 0 := by rw [ic_cl hi16]; exact z
      by_cases b : ic_B l h (8 + n) i = 0
      · refine ⟨0, fun post hp => br_f h8 ⟨hin, br_f z' (xB _ (br_t b hp))⟩,
          fun post hp => br_f h8 (br_f h10 ⟨hin, br_f z' (yB _ (br_t b (nm_r (nI_1 i) ?_)))⟩)⟩
        exact br_c (fun _ => ⟨rfl, hp⟩) (fun _ => br_t rfl ⟨rfl, hp⟩)
      · exact ⟨r, fun post hp => br_f h8 ⟨hin, br_f z' (xB _ (br_f b (nm_r (nI_1 i) (hX post hp))))⟩,
          fun post hp => br_f h8 (br_f h10 ⟨hin, br_f z' (yB _ (br_f b (nm_r (nI_1 i) (hY post hp))))⟩)⟩
/-! pairs apart -/
def ic_f (p : Nat → Int32) (l h : Nat → Int64) (x y : Nat) : Nat := if ic_cp p l h x y = 3 then 1 else 0
theorem ic_f0 {p : Nat → Int32} {l h : Nat → Int64} {x y : Nat} (e : ¬ ic_cp p l h x y = 3) : ic_f p l h x y = 0 := if_neg e
theorem ic_f1 {p : Nat → Int32} {l h : Nat → Int64} {x y : Nat} (e : ic_cp p l h x y = 3) : ic_f p l h x y = 1 := if_pos e
theorem ic_xin (c : Int32) (p : Nat → Int32) (l h : Nat → Int64) (q : Nat → Int32) (post : Int32 → Prop) (J : Int32 → Int32 → Prop) (y A : Nat) (hy : y < 16) (hJ : J (nI (A + ic_S (fun x => ic_f p l h x y) y)) (nI (y + 1))) :
    ∀ d i, i + d = y → wX_apartPairs_12 post J (nI y) c p l h q (d + 1) (nI (A + ic_S (fun x => ic_f p l h x y) i)) (nI i) := by
  intro d
  induction d with
  | zero =>
    intro i hi
    have e : i = y := by omega
    subst e
    exact br_t (nI_le (by omega) (by omega)) (nm_r (nI_1 i) hJ)
  | succ d ih =>
    intro i hi
    have hn : ¬ nI y ≤ nI i := nI_ge (by omega) (by omega)
    have hi16 : i < 16 := by omega
    have H := ih (i + 1) (by omega)
    have stay : ic_f p l h i y = 0 → wX_apartPairs_12 post J (nI y) c p l h q (d + 1) (nI (A + ic_S (fun x => ic_f p l h x y) i)) (nI (i + 1)) := fun e => by
      have e2 : ic_S (fun x => ic_f p l h x y) (i + 1) = ic_S (fun x => ic_f p l h x y) i := by
        show ic_S (fun x => ic_f p l h x y) i + ic_f p l h i y = _
        omega
      rw [e2] at H
      exact H
    by_cases z : p i = 0
    · have z' : p (nI i).toNatClampNeg = 0 := by rw [ic_cl hi16]; exact z
      have e : ic_f p l h i y = 0 := ic_f0 (by unfold ic_cp; rw [if_pos z]; decide)
      exact br_f hn ⟨ic_in16 hi16, br_t z' (nm_r (nI_1 i) (stay e))⟩
    · have z' : ¬ p (nI i).toNatClampNeg = 0 := by rw [ic_cl hi16]; exact z
      by_cases w : p y = 0
      · have w' : p (nI y).toNatClampNeg = 0 := by rw [ic_cl hy]; exact w
        have e : ic_f p l h i y = 0 := ic_f0 (by unfold ic_cp; rw [if_neg z, if_pos w]; decide)
        exact br_f hn ⟨ic_in16 hi16, br_f z' ⟨ic_in16 hy, br_t w' (nm_r (nI_1 i) (stay e))⟩⟩
      · have w' : ¬ p (nI y).toNatClampNeg = 0 := by rw [ic_cl hy]; exact w
        have cp : ic_cp p l h i y = ic_st l h i y := by unfold ic_cp; rw [if_neg z, if_neg w]
        by_cases s : ic_st l h i y = 3
        · have e2 : A + ic_S (fun x => ic_f p l h x y) i + 1 = A + ic_S (fun x => ic_f p l h x y) (i + 1) := by
            have e := ic_f1 (cp.trans s)
            show _ = A + (ic_S (fun x => ic_f p l h x y) i + ic_f p l h i y)
            omega
          refine br_f hn ⟨ic_in16 hi16, br_f z' ⟨ic_in16 hy, br_f w' (ic_xst c p l h q hi16 hy _ (br_t s (nm_r ((nI_1 _).trans (congrArg nI e2)) (nm_r (nI_1 i) H))))⟩⟩
        · have e : ic_f p l h i y = 0 := ic_f0 (by rw [cp]; exact s)
          exact br_f hn ⟨ic_in16 hi16, br_f z' ⟨ic_in16 hy, br_f w' (ic_xst c p l h q hi16 hy _ (br_f s (nm_r (nI_1 i) (stay e))))⟩⟩
theorem ic_xout (c : Int32) (p : Nat → Int32) (l h : Nat → Int64) (q : Nat → Int32) (post : Int32 → Prop) (hp : post (nI (ic_S (fun y => ic_S (fun x => ic_f p l h x y) y) 16))) :
    ∀ d y, y + d = 16 → wX_apartPairs_4 post c p l h q (d + 1) (nI (ic_S (fun y => ic_S (fun x => ic_f p l h x y) y) y)) (nI y) := by
  intro d
  induction d with
  | zero =>
    intro y hy
    have e : y = 16 := by omega
    subst e
    exact br_t (nI_le (a := 16) (by omega) (by decide)) hp
  | succ d ih =>
    intro y hy
    exact br_f (ic_n16 (by omega)) ⟨y + 1, ic_xin c p l h q post _ y _ (by omega) (ih (y + 1) (by omega)) y 0 (by omega)⟩
theorem ic_yout (c : Int32) (p : Nat → Int32) (l h : Nat → Int64) (g : Nat → Int32) (post : Int32 → Prop) (hp : post (nI (ic_S (fun c => if c / 16 < c % 16 then ic_f p l h (c / 16) (c % 16) else 0) 256))) :
    ∀ d i, i + d = 256 → wY_apartPairs_4 post c p l h g (d + 1) (nI (ic_S (fun c => if c / 16 < c % 16 then ic_f p l h (c / 16) (c % 16) else 0) i)) (nI i) := by
  intro d
  induction d with
  | zero =>
    intro i hi
    have e : i = 256 := by omega
    subst e
    exact br_t (nI_le (a := 256) (by omega) (by decide)) hp
  | succ d ih =>
    intro i hi
    have H := ih (i + 1) (by omega)
    have e1 : nI i / 16 = nI (i / 16) := pk_div (d := 16) (by omega) (by decide) (by decide)
    have e2 : nI i - nI i / 16 * 16 = nI (i % 16) := pk_rem (d := 16) (by omega) (by decide) (by decide)
    have stay : (if i / 16 < i % 16 then ic_f p l h (i / 16) (i % 16) else 0) = 0 → wY_apartPairs_4 post c p l h g (d + 1) (nI (ic_S (fun c => if c / 16 < c % 16 then ic_f p l h (c / 16) (c % 16) else 0) i)) (nI (i + 1)) := fun e => by
      have e2 : ic_S (fun c => if c / 16 < c % 16 then ic_f p l h (c / 16) (c % 16) else 0) (i + 1) = ic_S (fun c => if c / 16 < c % 16 then ic_f p l h (c / 16) (c % 16) else 0) i := by
        show ic_S (fun c => if c / 16 < c % 16 then ic_f p l h (c / 16) (c % 16) else 0) i + (if i / 16 < i % 16 then ic_f p l h (i / 16) (i % 16) else 0) = _
        omega
      rw [e2] at H
      exact H
    have h16 : ¬ (16 : Int32) = 0 := by decide
    refine br_f (nI_ge (b := 256) (by omega) (by decide)) ⟨h16, h16, pk_le (i % 16) (i / 16) (fun hle => nm_r (nI_1 i) (stay (if_neg (by omega)))) (fun hlt => ⟨h16, h16, ?_⟩) e2 e1 (by omega) (by omega)⟩
    rw [e2, e1]
    refine ic_ycp c p l h g (by omega) (by omega) _ ?_
    by_cases s : ic_cp p l h (i / 16) (i % 16) = 3
    · have e3 : ic_S (fun c => if c / 16 < c % 16 then ic_f p l h (c / 16) (c % 16) else 0) i + 1 = ic_S (fun c => if c / 16 < c % 16 then ic_f p l h (c / 16) (c % 16) else 0) (i + 1) := by
        show _ = ic_S (fun c => if c / 16 < c % 16 then ic_f p l h (c / 16) (c % 16) else 0) i + (if i / 16 < i % 16 then ic_f p l h (i / 16) (i % 16) else 0)
        rw [if_pos hlt, ic_f1 s]
      exact br_t s (nm_r ((nI_1 _).trans (congrArg nI e3)) (nm_r (nI_1 i) H))
    · exact br_f s (nm_r (nI_1 i) (stay (by rw [if_pos hlt, ic_f0 s])))
end
section
/-! split: the reference deals its cells out one by one -/
theorem ic_free (c : Int32) (p : Nat → Int32) (l h : Nat → Int64) (q g : Nat → Int32) : ∀ d i, i + d = 8 → ∃ s, s ≤ 8 ∧ (s < 8 → p s = 0) ∧
    (∀ post : Int32 → Prop, post (nI s) → wX_leastFreeSlot_2 post c p l h q (d + 1) (nI i)) ∧
    (∀ (post : Int32 → SY → Prop) (x1 x2 : Int32), wY_split_44 post x1 x2 (nI s) c p l h g → wY_split_23 post x1 x2 c p l h g (d + 1) (nI i)) := by
  intro d
  induction d with
  | zero =>
    intro i hi
    have e : i = 8 := by omega
    subst e
    have h8 : (8 : Int32) ≤ nI 8 := nI_le (a := 8) (by omega) (by decide)
    exact ⟨8, by omega, fun z => absurd z (by omega), fun _ hp => br_t h8 hp, fun _ _ _ hp => br_t h8 hp⟩
  | succ d ih =>
    intro i hi
    have h8 : ¬ (8 : Int32) ≤ nI i := ic_n8 (by omega)
    have hi16 : i < 16 := by omega
    by_cases z : p i = 0
    · have z' : p (nI i).toNatClampNeg = 0 := by rw [ic_cl hi16]; exact z
      exact ⟨i, by omega, fun _ => z, fun _ hp => br_f h8 ⟨ic_in16 hi16, br_t z' hp⟩, fun _ _ _ hp => br_f h8 ⟨ic_in16 hi16, br_t z' hp⟩⟩
    · have z' : ¬ p (nI i).toNatClampNeg = 0 := by rw [ic_cl hi16]; exact z
      obtain ⟨s, hs, hps, hX, hY⟩ := ih (i + 1) (by omega)
      exact ⟨s, hs, hps, fun post hp => br_f h8 ⟨ic_in16 hi16, br_f z' (nm_r (nI_1 i) (hX post hp))⟩,
        fun post x1 x2 hp => br_f h8 ⟨ic_in16 hi16, br_f z' (nm_r (nI_1 i) (hY post x1 x2 hp))⟩⟩
/-- after the bits below i: G j keeps the first R of the set w, G s has the others -/
def ic_Inv (g : Nat → Int32) (w : Int32) (j s R i : Nat) (G : Nat → Int32) : Prop :=
  (∀ t, t ≠ j → t ≠ s → G t = g t) ∧
  (∀ b, bt (G j) b = true → bt w b = true) ∧
  (∀ b, bt (G s) b = true → bt w b = true ∧ bt (G j) b = false) ∧
  (∀ b, i ≤ b → b < 32 → bt (G j) b = bt w b ∧ bt (G s) b = false) ∧
  ic_S (ic_b (G j)) i + ic_S (ic_b (G s)) i = ic_S (ic_b w) i ∧
  ic_S (ic_b (G j)) i = min R (ic_S (ic_b w) i)
theorem ic_inv_skip {g : Nat → Int32} {w : Int32} {j s R i : Nat} {G : Nat → Int32} (hi : i < 32) (I : ic_Inv g w j s R i G) (hb : bt (G j) i = false) : ic_Inv g w j s R (i + 1) G ∧ ic_S (ic_b w) (i + 1) = ic_S (ic_b w) i := by
  obtain ⟨h1, h2, h3, h4, h5, h6⟩ := I
  obtain ⟨k1, k2⟩ := h4 i (Nat.le_refl i) hi
  have b1 : ic_b (G j) i = 0 := ic_b_f hb
  have b2 : ic_b (G s) i = 0 := ic_b_f k2
  have b3 : ic_b w i = 0 := ic_b_f (k1.symm.trans hb)
  refine ⟨⟨h1, h2, h3, fun b hb' hb2 => h4 b (by omega) hb2, ?_, ?_⟩, ?_⟩
  · show ic_S (ic_b (G j)) i + ic_b (G j) i + (ic_S (ic_b (G s)) i + ic_b (G s) i) = ic_S (ic_b w) i + ic_b w i
    omega
  · show ic_S (ic_b (G j)) i + ic_b (G j) i = min R (ic_S (ic_b w) i + ic_b w i)
    rw [b1, b3]; exact h6
  · show ic_S (ic_b w) i + ic_b w i = _
    omega
theorem ic_inv_keep {g : Nat → Int32} {w : Int32} {j s R i : Nat} {G : Nat → Int32} (hi : i < 32) (I : ic_Inv g w j s R i G) (hb : bt (G j) i = true) (hR : ic_S (ic_b w) i < R) : ic_Inv g w j s R (i + 1) G ∧ ic_S (ic_b w) (i + 1) = ic_S (ic_b w) i + 1 := by
  obtain ⟨h1, h2, h3, h4, h5, h6⟩ := I
  obtain ⟨k1, k2⟩ := h4 i (Nat.le_refl i) hi
  have b1 : ic_b (G j) i = 1 := ic_b_t hb
  have b2 : ic_b (G s) i = 0 := ic_b_f k2
  have b3 : ic_b w i = 1 := ic_b_t (k1.symm.trans hb)
  refine ⟨⟨h1, h2, h3, fun b hb' hb2 => h4 b (by omega) hb2, ?_, ?_⟩, ?_⟩
  · show ic_S (ic_b (G j)) i + ic_b (G j) i + (ic_S (ic_b (G s)) i + ic_b (G s) i) = ic_S (ic_b w) i + ic_b w i
    omega
  · show ic_S (ic_b (G j)) i + ic_b (G j) i = min R (ic_S (ic_b w) i + ic_b w i)
    omega
  · show ic_S (ic_b w) i + ic_b w i = _
    omega
theorem ic_inv_move {g : Nat → Int32} {w : Int32} {j s R i : Nat} {G G' : Nat → Int32} (hi : i < 32) (I : ic_Inv g w j s R i G) (hb : bt (G j) i = true) (hR : R ≤ ic_S (ic_b w) i)
    (e1 : ∀ t, t ≠ j → t ≠ s → G' t = G t) (e2 : ∀ b, b < 32 → bt (G' j) b = (bt (G j) b && !decide (b = i))) (e3 : ∀ b, b < 32 → bt (G' s) b = (bt (G s) b || decide (b = i))) : ic_Inv g w j s R (i + 1) G' ∧ ic_S (ic_b w) (i + 1) = ic_S (ic_b w) i + 1 := by
  obtain ⟨h1, h2, h3, h4, h5, h6⟩ := I
  obtain ⟨k1, k2⟩ := h4 i (Nat.le_refl i) hi
  have n2 : ∀ b, b < 32 → b ≠ i → bt (G' j) b = bt (G j) b := fun b hb hne => by rw [e2 b hb, decide_eq_false hne]; simp
  have n3 : ∀ b, b < 32 → b ≠ i → bt (G' s) b = bt (G s) b := fun b hb hne => by rw [e3 b hb, decide_eq_false hne]; simp
  have t2 : bt (G' j) i = false := by rw [e2 i hi, decide_eq_true rfl]; simp
  have t3 : bt (G' s) i = true := by rw [e3 i hi, decide_eq_true rfl]; simp
  have wi : bt w i = true := k1.symm.trans hb
  have lt : ∀ {x : Int32} {b : Nat}, bt x b = true → b < 32 := fun {x b} e => by
    rcases Nat.lt_or_ge b 32 with z | z
    · exact z
    · rw [b_big z] at e; exact absurd e (by decide)
  have b1 : ic_b (G' j) i = 0 := ic_b_f t2
  have b2 : ic_b (G' s) i = 1 := ic_b_t t3
  have b3 : ic_b w i = 1 := ic_b_t wi
  have s1 : ic_S (ic_b (G' j)) i = ic_S (ic_b (G j)) i := ic_S_ext i (fun b hb => by unfold ic_b; rw [n2 b (by omega) (by omega)])
  have s2 : ic_S (ic_b (G' s)) i = ic_S (ic_b (G s)) i := ic_S_ext i (fun b hb => by unfold ic_b; rw [n3 b (by omega) (by omega)])
  refine ⟨⟨fun t a b => (e1 t a b).trans (h1 t a b), fun b hbt => ?_, fun b hbt => ?_, fun b hb' hb2 => ?_, ?_, ?_⟩, ?_⟩
  · by_cases e : b = i
    · rw [e]; exact wi
    · exact h2 b ((n2 b (lt hbt) e).symm.trans hbt)
  · by_cases e : b = i
    · rw [e]; exact ⟨wi, t2⟩
    · have z := h3 b ((n3 b (lt hbt) e).symm.trans hbt)
      exact ⟨z.1, (n2 b (lt hbt) e).trans z.2⟩
  · have z := h4 b (by omega) hb2
    exact ⟨(n2 b hb2 (by omega)).trans z.1, (n3 b hb2 (by omega)).trans z.2⟩
  · show ic_S (ic_b (G' j)) i + ic_b (G' j) i + (ic_S (ic_b (G' s)) i + ic_b (G' s) i) = ic_S (ic_b w) i + ic_b w i
    omega
  · show ic_S (ic_b (G' j)) i + ic_b (G' j) i = min R (ic_S (ic_b w) i + ic_b w i)
    omega
  · show ic_S (ic_b w) i + ic_b w i = _
    omega
theorem ic_upd_same (f : Nat → Int32) (k : Nat) : upd f k (f k) = f := by
  funext j
  by_cases e : j = k
  · subst e; exact pk_us
  · exact pk_un e
theorem ic_le0 {a b : Nat} (ha : a ≤ 32) (hb : b ≤ 32) : nI a - nI b ≤ 0 ↔ a ≤ b := by
  rw [Int32.le_iff_toInt_le, pk_sub_toInt (by omega) (by omega), show (0 : Int32).toInt = 0 from by decide]
  omega
theorem ic_dec (a b : Nat) : nI a - nI b + (-1) = nI a - nI (b + 1) := by
  rw [← nI_1]
  generalize nI a = x
  generalize nI b = y
  grind
theorem ic_deal (post : Int32 → SY → Prop) (c : Int32) (p : Nat → Int32) (l h : Nat → Int64) (g : Nat → Int32) (w : Int32) (j s R : Nat) (hj : j < 8) (hs : s < 8) (hjs : j ≠ s) (hR : R ≤ 32)
    (hp : ∀ G, ic_Inv g w j s R 32 G → post (nI s) (c, p, l, h, G)) :
    ∀ d i G, i + d = 32 → ic_Inv g w j s R i G → wY_split_106 post (nI j) (nI s) c (d + 1) (nI R - nI (ic_S (ic_b w) i)) (nI i) p l h G := by
  intro d
  induction d with
  | zero =>
    intro i G hi I
    have e : i = 32 := by omega
    subst e
    exact br_t (nI_le (a := 32) (by omega) (by decide)) (hp G I)
  | succ d ih =>
    intro i G hi I
    have hi32 : i < 32 := by omega
    have cj : (nI j).toNatClampNeg = j := ic_cl (by omega)
    have cs : (nI s).toNatClampNeg = s := ic_cl (by omega)
    have hS : ic_S (ic_b w) i ≤ 32 := Nat.le_trans (ic_S_le (ic_b_le w) i) (by omega)
    refine br_f (nI_ge (b := 32) hi32 (by decide)) ⟨ic_in8 hj, ?_⟩
    cases hb : bt (G j) i
    · have t : ¬ ((G (nI j).toNatClampNeg >>> (nI i &&& 31)) &&& 1) = 1 := by
        rw [cj, ic_bit1 _ i hi32, hb]; decide
      obtain ⟨I', e⟩ := ic_inv_skip hi32 I hb
      have H := ih (i + 1) G (by omega) I'
      rw [e] at H
      exact br_f t (nm_r (nI_1 i) H)
    · have t : ((G (nI j).toNatClampNeg >>> (nI i &&& 31)) &&& 1) = 1 := by
        rw [cj, ic_bit1 _ i hi32, hb]
      refine br_t t ?_
      rcases Nat.lt_or_ge (ic_S (ic_b w) i) R with hlt | hge
      · have n0 : ¬ nI R - nI (ic_S (ic_b w) i) ≤ 0 := by rw [ic_le0 hR hS]; omega
        obtain ⟨I', e⟩ := ic_inv_keep hi32 I hb hlt
        have H := ih (i + 1) G (by omega) I'
        rw [e] at H
        refine br_f n0 ⟨ic_in8 hs, ic_in8 hs, nm_r (e' := G) ?_ (br_f n0 ⟨ic_in8 hj, ic_in8 hj, nm_r (e' := G) ?_ (nm_r (ic_dec R _) (nm_r (nI_1 i) H))⟩)⟩
        · exact ic_upd_same G _
        · exact ic_upd_same G _
      · have y0 : nI R - nI (ic_S (ic_b w) i) ≤ 0 := by rw [ic_le0 hR hS]; omega
        refine br_t y0 ⟨ic_in8 hs, ic_in8 hs, nm_e (br_t y0 ⟨ic_in8 hj, ic_in8 hj, nm_e (nm_r (ic_dec R _) (nm_r (nI_1 i) ?_))⟩)⟩
        rw [cj, cs]
        have G1 : upd G s (G s ||| ((1 : Int32) <<< (nI i &&& 31))) j = G j := pk_un hjs
        rw [G1]
        obtain ⟨I', e⟩ := ic_inv_move (G' := upd (upd G s (G s ||| ((1 : Int32) <<< (nI i &&& 31)))) j (G j &&& (((1 : Int32) <<< (nI i &&& 31)) ^^^ (-1)))) hi32 I hb hge
          (fun t a b => by rw [pk_un a, pk_un b])
          (fun b hb => by rw [pk_us, b_and, b_xor, ic_one i hi32 b hb, b_m1 b hb, Bool.xor_true])
          (fun b hb => by rw [pk_un (Ne.symm hjs), pk_us, b_or, ic_one i hi32 b hb])
        have H := ih (i + 1) _ (by omega) I'
        rw [e] at H
        exact H
end
section
/-! what the changing calls keep -/
theorem ic_C_p {p p' q g : Nat → Int32} (H : ic_C p q g) (e : ∀ i, i < 8 → p' i = p i) : ic_C p' q g :=
  ⟨fun i hi hp => H.1 i hi (by rw [← e i hi]; exact hp), fun i j hi hj hij hpi hpj => H.2 i j hi hj hij (by rw [← e i hi]; exact hpi) (by rw [← e j hj]; exact hpj)⟩
theorem ic_C_split {p q g G : Nat → Int32} {j s : Nat} (hj : j < 8) (hjs : j ≠ s) (H : ic_C p q g) (hpj : p j ≠ 0) (I : ic_Inv g (g j) j s (ic_pop (g j) - ic_pop (g j) / 2) 32 G) (x : Int32) :
    ic_C (upd p s x) (upd (upd q j (q j - q j / 2)) s (q j / 2)) G := by
  obtain ⟨h1, h2, h3, _, h5, h6⟩ := I
  have hn := ic_pop_le (g j)
  have p5 : ic_pop (G j) + ic_pop (G s) = ic_pop (g j) := h5
  have p6 : ic_pop (G j) = min (ic_pop (g j) - ic_pop (g j) / 2) (ic_pop (g j)) := h6
  have eq := H.1 j hj hpj
  have ed : q j / 2 = nI (ic_pop (g j) / 2) := by
    rw [eq]; exact pk_div (d := 2) (by omega) (by decide) (by decide)
  have es : q j - q j / 2 = nI (ic_pop (g j) - ic_pop (g j) / 2) := by
    rw [ed, eq]; exact pk_sub (by omega)
  refine ⟨fun i hi hp => ?_, fun i t hi ht hit hpi hpt b hb => ?_⟩
  · by_cases e1 : i = s
    · subst e1
      rw [pk_us, ed]
      exact congrArg nI (by omega)
    · rw [pk_un e1] at hp
      rw [pk_un e1]
      by_cases e2 : i = j
      · subst e2
        rw [pk_us, es]
        exact congrArg nI (by omega)
      · rw [pk_un e2, h1 i e2 e1]
        exact H.1 i hi hp
  · by_cases e1 : i = s
    · subst e1
      obtain ⟨a1, a2⟩ := h3 b hb
      rw [pk_un (Ne.symm hit)] at hpt
      by_cases e2 : t = j
      · rw [e2]; exact a2
      · rw [h1 t e2 (Ne.symm hit)]
        exact H.2 j t hj ht (Ne.symm e2) hpj hpt b a1
    · rw [pk_un e1] at hpi
      by_cases e2 : i = j
      · subst e2
        have a1 := h2 b hb
        by_cases e3 : t = s
        · cases hz : bt (G t) b
          · rfl
          · rw [e3] at hz
            rw [(h3 b hz).2] at hb
            exact absurd hb (by decide)
        · rw [pk_un e3] at hpt
          rw [h1 t (Ne.symm hit) e3]
          exact H.2 i t hi ht hit hpi hpt b a1
      · rw [h1 i e2 e1] at hb
        by_cases e3 : t = s
        · cases hz : bt (G t) b
          · rfl
          · rw [e3] at hz
            have a1 := (h3 b hz).1
            rw [H.2 i j hi hj e2 hpi hpj b hb] at a1
            exact absurd a1 (by decide)
        · rw [pk_un e3] at hpt
          by_cases e4 : t = j
          · cases hz : bt (G t) b
            · rfl
            · rw [e4] at hz
              have a1 := h2 b hz
              rw [H.2 i j hi hj e2 hpi hpj b hb] at a1
              exact absurd a1 (by decide)
          · rw [h1 t e4 e3]
            exact H.2 i t hi ht hit hpi hpt b hb
theorem ic_inv_0 {g : Nat → Int32} {j s R : Nat} (hjs : j ≠ s) : ic_Inv g (g j) j s R 0 (upd g s 0) := by
  refine ⟨fun t _ b => pk_un b, fun b hb => ?_, fun b hb => ?_, fun b _ _ => ?_, ?_, ?_⟩
  · rw [pk_un hjs] at hb; exact hb
  · rw [pk_us, b_0] at hb; exact absurd hb (by decide)
  · rw [pk_un hjs, pk_us]; exact ⟨rfl, b_0 b⟩
  · rfl
  · exact (Nat.min_zero R).symm
theorem ic_pop_join {p q g : Nat → Int32} {a b : Nat} (ha : a < 8) (hb : b < 8) (hab : a ≠ b) (hpa : p a ≠ 0) (hpb : p b ≠ 0) (H : ic_C p q g) : q a + q b = nI (ic_pop (g a ||| g b)) := by
  rw [ic_pop_or (H.2 a b ha hb hab hpa hpb), H.1 a ha hpa, H.1 b hb hpb, nI_add]
theorem ic_C_join {p q g : Nat → Int32} {a b : Nat} (ha : a < 8) (hb : b < 8) (hab : a ≠ b) (hpa : p a ≠ 0) (hpb : p b ≠ 0) (H : ic_C p q g) :
    ic_C (upd p b (vp_nar .boolean 0)) (upd q a (q a + q b)) (upd g a (g a ||| g b)) := by
  have hne : ∀ i, upd p b (vp_nar .boolean 0) i ≠ 0 → i ≠ b ∧ p i ≠ 0 := fun i hp => by
    by_cases e : i = b
    · rw [e, pk_us, ic_nb0] at hp; exact absurd rfl hp
    · rw [pk_un e] at hp; exact ⟨e, hp⟩
  refine ⟨fun i hi hp => ?_, fun i t hi ht hit hpi hpt c hc => ?_⟩
  · obtain ⟨_, hp'⟩ := hne i hp
    by_cases e : i = a
    · subst e
      rw [pk_us, pk_us]
      exact ic_pop_join hi hb hab hpa hpb H
    · rw [pk_un e, pk_un e]
      exact H.1 i hi hp'
  · obtain ⟨nb, hpi'⟩ := hne i hpi
    obtain ⟨nb2, hpt'⟩ := hne t hpt
    by_cases e : i = a
    · subst e
      rw [pk_us, b_or] at hc
      rw [pk_un (Ne.symm hit)]
      cases hz : bt (g i) c
      · rw [hz, Bool.false_or] at hc
        exact H.2 b t hb ht (Ne.symm nb2) hpb hpt' c hc
      · exact H.2 i t hi ht hit hpi' hpt' c hz
    · rw [pk_un e] at hc
      by_cases e2 : t = a
      · subst e2
        rw [pk_us, b_or, H.2 i t hi ht hit hpi' hpa c hc, H.2 i b hi hb nb hpi' hpb c hc]
        rfl
      · rw [pk_un e2]
        exact H.2 i t hi ht hit hpi' hpt' c hc
end
section
/-! the calls that change something -/
theorem ic_10 : ¬ (1 : Int32) = 0 := by decide
theorem i_vc_split {k : Nat} {u : SX} {v : SY} (I : i_Rel k u v) (hk : k + 3 ≤ 1536) (v1 : Int32) : wpX_split (fun r u' => wpY_split (fun r' v' => r' = r ∧ i_Rel (k + 3) u' v') v v1) u v1 := by
  obtain ⟨c, p, l, h, q, g, rfl, rfl, H⟩ := I
  unfold wpX_split wpY_split
  dsimp only
  rcases ic_party c p l h q g v1 with ⟨hX, hY⟩ | ⟨j, hj, rfl, hpj, hX, hY⟩
  · exact hX _ (br_t rfl (hY _ (br_t rfl ⟨rfl, ic_mk H⟩)))
  · have cj : (nI j).toNatClampNeg = j := ic_cl (by omega)
    obtain ⟨s, hs, hps, fX, fY⟩ := ic_free c p l h q g 8 0 rfl
    have eq := H.1 j hj hpj
    have hn := ic_pop_le (g j)
    rw [cj]
    refine hX _ (br_f ic_10 ⟨9, fX _ ?_⟩)
    rcases Nat.lt_or_ge s 8 with s8 | s8
    · have ns : ¬ nI s = 8 := fun e => absurd ((nI_eq (b := 8) (by omega) (by decide)).mp e) (by omega)
      have hjs : j ≠ s := fun e => hpj (by rw [e]; exact hps s8)
      by_cases q1 : q j = 1
      · refine br_f ns ⟨ic_in8 hj, br_t q1 (hY _ (br_f ic_10 ⟨ic_in8 hj, ic_cnt c p l h g _ _ ⟨9, fY _ _ _ (br_f ns (br_t ?_ ⟨rfl, ic_mk H⟩))⟩⟩))⟩
        rw [← eq]; exact q1
      · have q1' : ¬ nI (ic_pop (g j)) = 1 := by rw [← eq]; exact q1
        have cs : (nI s).toNatClampNeg = s := ic_cl (by omega)
        have h2 : ¬ (2 : Int32) = 0 := by decide
        have e4 : nI (ic_pop (g j)) - nI (ic_pop (g j)) / 2 = nI (ic_pop (g j) - ic_pop (g j) / 2) - nI (ic_S (ic_b (g j)) 0) := by
          have e5 : nI (ic_pop (g j)) / 2 = nI (ic_pop (g j) / 2) := pk_div (d := 2) (by omega) (by decide) (by decide)
          rw [e5, pk_sub (by omega)]
          show _ = _ - nI 0
          rw [nI_0, Int32.sub_zero]
        rw [cs]
        refine br_f ns ⟨ic_in8 hj, br_f q1 ⟨ic_in8 hj, h2, nm_e ⟨ic_in8 hj, ic_in8 hj, nm_e ⟨ic_in8 s8, nm_e ⟨ic_in16 (by omega), nm_e (ic_xcopy c _ l h _ (by omega) (by omega) _ ?_)⟩⟩⟩⟩⟩
        refine hY _ (br_f ic_10 ⟨ic_in8 hj, ic_cnt c p l h g _ _ ⟨9, fY _ _ _ ?_⟩⟩)
        unfold wY_split_44
        rw [cj, cs]
        refine br_f ns (br_f q1' ⟨ic_in16 (by omega), nm_e ⟨ic_in16 (by omega), ic_in16 (by omega), nm_e ⟨ic_in16 (by omega), ic_in16 (by omega), nm_e ⟨ic_in8 s8, nm_e ⟨h2, nm_r e4 ⟨33, ?_⟩⟩⟩⟩⟩⟩)
        exact ic_deal _ c _ _ _ g (g j) j s _ hj s8 hjs (by omega) (fun G IG => ⟨rfl, ic_mk (ic_C_split hj hjs H hpj IG _)⟩) 32 0 _ rfl (ic_inv_0 hjs)
    · have e8 : s = 8 := by omega
      subst e8
      exact br_t rfl (hY _ (br_f ic_10 ⟨ic_in8 hj, ic_cnt c p l h g _ _ ⟨9, fY _ _ _ (br_t rfl ⟨rfl, ic_mk H⟩)⟩⟩))
theorem i_vc_join {k : Nat} {u : SX} {v : SY} (I : i_Rel k u v) (hk : k + 3 ≤ 1536) (v1 : Int32) (v2 : Int32) : wpX_join (fun r u' => wpY_join (fun r' v' => r' = r ∧ i_Rel (k + 3) u' v') v v1 v2) u v1 v2 := by
  obtain ⟨c, p, l, h, q, g, rfl, rfl, H⟩ := I
  unfold wpX_join wpY_join
  dsimp only
  by_cases e : v1 = v2
  · exact br_t e (br_t e ⟨rfl, ic_mk H⟩)
  · refine br_f e ?_
    rcases ic_party c p l h q g v1 with ⟨hX, hY⟩ | ⟨a, ha, rfl, hpa, hX, hY⟩
    · exact hX _ (br_t rfl (br_f e (hY _ (br_t rfl ⟨rfl, ic_mk H⟩))))
    · rcases ic_party c p l h q g v2 with ⟨kX, kY⟩ | ⟨b, hb, rfl, hpb, kX, kY⟩
      · exact hX _ (br_f ic_10 (kX _ (br_t rfl (br_f e (hY _ (br_f ic_10 (kY _ (br_t rfl ⟨rfl, ic_mk H⟩))))))))
      · have hab : a ≠ b := fun z => e (by rw [z])
        have ca : (nI a).toNatClampNeg = a := ic_cl (by omega)
        have cb : (nI b).toNatClampNeg = b := ic_cl (by omega)
        have ia : vp_in (nI a) 16 := ic_in16 (by omega)
        have ib : vp_in (nI b) 16 := ic_in16 (by omega)
        rw [ca, cb]
        refine hX _ (br_f ic_10 (kX _ (br_f ic_10 (ic_xlearn c p l h q (by omega) (by omega) _ ?_))))
        refine ⟨ic_in8 ha, ic_in8 hb, ic_in8 ha, nm_e ⟨ib, nm_e ⟨ic_in8 ha, br_f e (hY _ (br_f ic_10 (kY _ (br_f ic_10 ⟨ia, ib, ia, nm_e ⟨ia, ib, ia, nm_e ⟨ic_in8 ha, ic_in8 hb, ic_in8 ha, nm_e ⟨ib, nm_e ⟨ic_in8 ha, ic_cnt c _ _ _ _ _ _ ⟨?_, ic_mk (ic_C_join ha hb hab hpa hpb H)⟩⟩⟩⟩⟩⟩))))⟩⟩⟩
        rw [pk_us, pk_us]
        exact (ic_pop_join ha hb hab hpa hpb H).symm
theorem i_vc_event {k : Nat} {u : SX} {v : SY} (I : i_Rel k u v) (hk : k + 3 ≤ 1536) (v1 : Int32) : wpX_event (fun r u' => wpY_event (fun r' v' => r' = r ∧ i_Rel (k + 3) u' v') v v1) u v1 := by
  obtain ⟨c, p, l, h, q, g, rfl, rfl, H⟩ := I
  unfold wpX_event wpY_event
  dsimp only
  rcases ic_party c p l h q g v1 with ⟨hX, hY⟩ | ⟨a, ha, rfl, hpa, hX, hY⟩
  · exact hX _ (br_t rfl (hY _ (br_t rfl ⟨rfl, ic_mk H⟩)))
  · have ia : vp_in (nI a) 16 := ic_in16 (by omega)
    refine hX _ (br_f ic_10 ?_)
    by_cases e1 : c < 100
    · refine br_t e1 ?_
      by_cases e2 : (64 : Int32) ≤ c
      · exact br_t e2 ⟨ia, ia, nm_e (nm_e (hY _ (br_f ic_10 (br_t e1 (br_t e2 ⟨ia, ia, nm_e (nm_e ⟨rfl, ic_mk H⟩)⟩)))))⟩
      · exact br_f e2 ⟨ia, ia, nm_e (nm_e (hY _ (br_f ic_10 (br_t e1 (br_f e2 ⟨ia, ia, nm_e (nm_e ⟨rfl, ic_mk H⟩)⟩)))))⟩
    · exact br_f e1 (hY _ (br_f ic_10 (br_f e1 ⟨rfl, ic_mk H⟩)))
theorem i_vc_tell {k : Nat} {u : SX} {v : SY} (I : i_Rel k u v) (hk : k + 3 ≤ 1536) (v1 : Int32) (v2 : Int32) : wpX_tell (fun r u' => wpY_tell (fun r' v' => r' = r ∧ i_Rel (k + 3) u' v') v v1 v2) u v1 v2 := by
  obtain ⟨c, p, l, h, q, g, rfl, rfl, H⟩ := I
  unfold wpX_tell wpY_tell
  dsimp only
  by_cases e : v1 = v2
  · exact br_t e (br_t e ⟨rfl, ic_mk H⟩)
  · refine br_f e ?_
    rcases ic_there c p l h q g v1 with ⟨hX, hY⟩ | ⟨a, ha, rfl, hpa, hX, hY⟩
    · exact hX _ (br_t rfl (br_f e (hY _ (br_t rfl ⟨rfl, ic_mk H⟩))))
    · rcases ic_party c p l h q g v2 with ⟨kX, kY⟩ | ⟨b, hb, rfl, hpb, kX, kY⟩
      · exact hX _ (br_f ic_10 (kX _ (br_t rfl (br_f e (hY _ (br_f ic_10 (kY _ (br_t rfl ⟨rfl, ic_mk H⟩))))))))
      · have ca : (nI a).toNatClampNeg = a := ic_cl ha
        have cb : (nI b).toNatClampNeg = b := ic_cl (by omega)
        have ia : vp_in (nI a) 16 := ic_in16 ha
        have hb16 : b < 16 := by omega
        have ib : vp_in (nI b) 16 := ic_in16 hb16
        rw [ca, cb]
        refine hX _ (br_f ic_10 (kX _ (br_f ic_10 (ic_xB c p l h q ha hb16 _ ?_))))
        by_cases B : ic_B l h a b = 0
        · exact br_t B (ic_xlearn c p l h q ha hb16 _ (br_f e (hY _ (br_f ic_10 (kY _ (br_f ic_10 (ic_yB c p l h g ha hb16 _ ⟨ib, ia, ib, nm_e ⟨ib, ia, ib, nm_e (br_t B ⟨rfl, ic_mk H⟩)⟩⟩)))))))
        · obtain ⟨B1, B2⟩ := ic_B1 B
          exact br_f B (br_f e (hY _ (br_f ic_10 (kY _ (br_f ic_10 (ic_yB c p l h g ha hb16 _ ⟨ib, ia, ib, nm_r (ic_updL_same l b (ic_known B1)) ⟨ib, ia, ib, nm_r (ic_updL_same h b (ic_known B2)) (br_f B ⟨rfl, ic_mk H⟩)⟩⟩))))))
theorem i_vc_note {k : Nat} {u : SX} {v : SY} (I : i_Rel k u v) (hk : k + 3 ≤ 1536) (v1 : Int32) (v2 : Int32) : wpX_note (fun r u' => wpY_note (fun r' v' => r' = r ∧ i_Rel (k + 3) u' v') v v1 v2) u v1 v2 := by
  obtain ⟨c, p, l, h, q, g, rfl, rfl, H⟩ := I
  unfold wpX_note wpY_note wpX_isNoteNumber
  dsimp only
  rcases ic_party c p l h q g v1 with ⟨hX, hY⟩ | ⟨a, ha, rfl, hpa, hX, hY⟩
  · exact hX _ (br_t rfl (hY _ (br_t rfl ⟨rfl, ic_mk H⟩)))
  · refine hX _ (br_f ic_10 ?_)
    rcases pk_ix v2 (n := 8) (by decide) with hx | hx | ⟨n, hn, rfl⟩
    · exact br_t hx (br_t rfl (hY _ (br_f ic_10 (br_t hx ⟨rfl, ic_mk H⟩))))
    · exact br_f (ic_g0 hx) (br_t hx (br_t rfl (hY _ (br_f ic_10 (br_f (ic_g0 hx) (br_f (Int32.not_le.mpr (ic_g7 hx)) ⟨rfl, ic_mk H⟩))))))
    · have h0 := ic_n0 (j := n) (by omega)
      have h7 : nI n ≤ 7 := nI_le (b := 7) (by omega) (by decide)
      have hn16 : 8 + n < 16 := by omega
      have ca : (nI a).toNatClampNeg = a := ic_cl (by omega)
      have cn : (nI (8 + n)).toNatClampNeg = 8 + n := ic_cl hn16
      have ia : vp_in (nI a) 16 := ic_in16 (by omega)
      have i8 : vp_in (nI (8 + n)) 16 := ic_in16 hn16
      rw [ic_8n, ca, cn]
      refine br_f h0 (br_f (ic_n8 hn) (br_f ic_10 ⟨i8, nm_e (ic_xcopy c _ l h q (by omega) hn16 _ ?_)⟩))
      exact hY _ (br_f ic_10 (br_f h0 (br_t h7 ⟨i8, nm_e ⟨ia, i8, nm_e ⟨ia, i8, nm_e ⟨rfl, ic_mk (ic_C_p H (fun i hi => pk_un (by omega)))⟩⟩⟩⟩)))
theorem i_vc_erase {k : Nat} {u : SX} {v : SY} (I : i_Rel k u v) (hk : k + 3 ≤ 1536) (v1 : Int32) : wpX_erase (fun r u' => wpY_erase (fun r' v' => r' = r ∧ i_Rel (k + 3) u' v') v v1) u v1 := by
  obtain ⟨c, p, l, h, q, g, rfl, rfl, H⟩ := I
  unfold wpX_erase wpY_erase
  dsimp only
  rcases pk_ix v1 (n := 8) (by decide) with hx | hx | ⟨n, hn, rfl⟩
  · exact ic_xwn c p l h q (Or.inl hx) _ (br_t rfl (br_t hx ⟨rfl, ic_mk H⟩))
  · exact ic_xwn c p l h q (Or.inr hx) _ (br_t rfl (br_f (ic_g0 hx) (br_t (ic_g7 hx) ⟨rfl, ic_mk H⟩)))
  · have h0 := ic_n0 (j := n) (by omega)
    have hn16 : 8 + n < 16 := by omega
    have cn : (nI (8 + n)).toNatClampNeg = 8 + n := ic_cl hn16
    have i8 : vp_in (nI (8 + n)) 16 := ic_in16 hn16
    rw [ic_8n, cn]
    refine ic_xw c p l h q hn _ (fun z => ?_) (fun z => ?_)
    · exact br_t rfl (br_f h0 (br_f (ic_n7 hn) ⟨i8, br_t z ⟨rfl, ic_mk H⟩⟩))
    · exact br_f ic_10 ⟨i8, nm_e (br_f h0 (br_f (ic_n7 hn) ⟨i8, br_f z ⟨i8, nm_e ⟨rfl, ic_mk (ic_C_p H (fun i hi => pk_un (by omega)))⟩⟩⟩))⟩
end
section
/-! the calls that only ask -/
theorem i_vc_parties {k : Nat} {u : SX} {v : SY} (I : i_Rel k u v) (hk : k + 3 ≤ 1536) : wpX_parties (fun r => wpY_parties (fun r' => r' = r ∧ i_Rel (k + 3) u v) v) u := by
  obtain ⟨c, p, l, h, q, g, rfl, rfl, H⟩ := I
  obtain ⟨r, hX, hY⟩ := ic_slots c p l h q g 0 (by omega) 8 0 rfl 0
  exact ⟨9, hX _ ⟨9, hY _ ⟨rfl, ic_mk H⟩⟩⟩
theorem i_vc_notes {k : Nat} {u : SX} {v : SY} (I : i_Rel k u v) (hk : k + 3 ≤ 1536) : wpX_notes (fun r => wpY_notes (fun r' => r' = r ∧ i_Rel (k + 3) u v) v) u := by
  obtain ⟨c, p, l, h, q, g, rfl, rfl, H⟩ := I
  obtain ⟨r, hX, hY⟩ := ic_slots c p l h q g 8 (by omega) 8 0 rfl 0
  exact ⟨9, hX _ ⟨9, hY _ ⟨rfl, ic_mk H⟩⟩⟩
theorem i_vc_events {k : Nat} {u : SX} {v : SY} (I : i_Rel k u v) (hk : k + 3 ≤ 1536) : wpX_events (fun r => wpY_events (fun r' => r' = r ∧ i_Rel (k + 3) u v) v) u := by
  obtain ⟨c, p, l, h, q, g, rfl, rfl, H⟩ := I
  exact ⟨rfl, ic_mk H⟩
theorem i_vc_cells {k : Nat} {u : SX} {v : SY} (I : i_Rel k u v) (hk : k + 3 ≤ 1536) (v1 : Int32) : wpX_cells (fun r => wpY_cells (fun r' => r' = r ∧ i_Rel (k + 3) u v) v v1) u v1 := by
  obtain ⟨c, p, l, h, q, g, rfl, rfl, H⟩ := I
  unfold wpX_cells wpY_cells
  dsimp only
  rcases ic_party c p l h q g v1 with ⟨hX, hY⟩ | ⟨j, hj, rfl, hpj, hX, hY⟩
  · exact hX _ (br_t rfl (hY _ (br_t rfl ⟨rfl, ic_mk H⟩)))
  · rw [ic_cl (j := j) (by omega)]
    exact hX _ (br_f ic_10 ⟨ic_in8 hj, hY _ (br_f ic_10 ⟨ic_in8 hj, ic_cnt c p l h g _ _ ⟨(H.1 j hj hpj).symm, ic_mk H⟩⟩)⟩)
theorem i_vc_compare {k : Nat} {u : SX} {v : SY} (I : i_Rel k u v) (hk : k + 3 ≤ 1536) (v1 : Int32) (v2 : Int32) : wpX_compare (fun r => wpY_compare (fun r' => r' = r ∧ i_Rel (k + 3) u v) v v1 v2) u v1 v2 := by
  obtain ⟨c, p, l, h, q, g, rfl, rfl, H⟩ := I
  unfold wpX_compare wpY_compare
  dsimp only
  rcases ic_there c p l h q g v1 with ⟨hX, hY⟩ | ⟨a, ha, rfl, hpa, hX, hY⟩
  · exact hX _ (br_t rfl (hY _ (br_t rfl ⟨rfl, ic_mk H⟩)))
  · rcases ic_there c p l h q g v2 with ⟨kX, kY⟩ | ⟨b, hb, rfl, hpb, kX, kY⟩
    · exact hX _ (br_f ic_10 (kX _ (br_t rfl (hY _ (br_f ic_10 (kY _ (br_t rfl ⟨rfl, ic_mk H⟩)))))))
    · exact hX _ (br_f ic_10 (kX _ (br_f ic_10 (ic_xst c p l h q ha hb _ (hY _ (br_f ic_10 (kY _ (br_f ic_10 (ic_yfol c p l h g ha hb _ ⟨rfl, ic_mk H⟩)))))))))
theorem i_vc_behind {k : Nat} {u : SX} {v : SY} (I : i_Rel k u v) (hk : k + 3 ≤ 1536) (v1 : Int32) : wpX_behind (fun r => wpY_behind (fun r' => r' = r ∧ i_Rel (k + 3) u v) v v1) u v1 := by
  obtain ⟨c, p, l, h, q, g, rfl, rfl, H⟩ := I
  unfold wpX_behind wpY_behind
  dsimp only
  rcases ic_there c p l h q g v1 with ⟨hX, hY⟩ | ⟨a, ha, rfl, hpa, hX, hY⟩
  · exact hX _ (br_t rfl ⟨1, br_f (by decide) (hY _ (br_t rfl ⟨rfl, ic_mk H⟩))⟩)
  · obtain ⟨r, bX, bY⟩ := ic_behind c p l h q g a ha hpa 16 0 rfl 0
    exact hX _ (br_f ic_10 ⟨17, bX _ ⟨17, bY _ ⟨rfl, ic_mk H⟩⟩⟩)
theorem i_vc_newest {k : Nat} {u : SX} {v : SY} (I : i_Rel k u v) (hk : k + 3 ≤ 1536) : wpX_newest (fun r => wpY_newest (fun r' => r' = r ∧ i_Rel (k + 3) u v) v) u := by
  obtain ⟨c, p, l, h, q, g, rfl, rfl, H⟩ := I
  obtain ⟨r, hX, hY⟩ := ic_newest c p l h q g 16 0 rfl 0
  exact ⟨17, hX _ ⟨17, hY _ ⟨rfl, ic_mk H⟩⟩⟩
theorem i_vc_everywhere {k : Nat} {u : SX} {v : SY} (I : i_Rel k u v) (hk : k + 3 ≤ 1536) (v1 : Int32) : wpX_everywhere (fun r => wpY_everywhere (fun r' => r' = r ∧ i_Rel (k + 3) u v) v v1) u v1 := by
  obtain ⟨c, p, l, h, q, g, rfl, rfl, H⟩ := I
  have n0 : ∀ (post : Int32 → Prop) (x : Int32), post 0 → ∃ n, wY_everywhere_30 post x c p l h g n 0 0 := fun post x hp => ⟨1, br_f (by decide) (br_t rfl ⟨rfl, hp⟩)⟩
  unfold wpX_everywhere wpY_everywhere
  dsimp only
  rcases pk_ix v1 (n := 8) (by decide) with hx | hx | ⟨n, hn, rfl⟩
  · exact ic_xwn c p l h q (Or.inl hx) _ (br_t rfl (br_t hx (n0 _ _ ⟨rfl, ic_mk H⟩)))
  · exact ic_xwn c p l h q (Or.inr hx) _ (br_t rfl (br_f (ic_g0 hx) (br_t (ic_g7 hx) (n0 _ _ ⟨rfl, ic_mk H⟩))))
  · have h0 := ic_n0 (j := n) (by omega)
    have hn16 : 8 + n < 16 := by omega
    have cn : (nI (8 + n)).toNatClampNeg = 8 + n := ic_cl hn16
    have i8 : vp_in (nI (8 + n)) 16 := ic_in16 hn16
    rw [ic_8n, cn]
    obtain ⟨r, eX, eY⟩ := ic_every c p l h q g n hn 8 0 rfl
    refine ic_xw c p l h q hn _ (fun z => ?_) (fun z => ?_)
    · exact br_t rfl (br_f h0 (br_f (ic_n7 hn) ⟨i8, br_t z (n0 _ _ ⟨rfl, ic_mk H⟩)⟩))
    · exact br_f ic_10 ⟨9, eX _ (br_f h0 (br_f (ic_n7 hn) ⟨i8, br_f z ⟨9, eY _ ⟨rfl, ic_mk H⟩⟩⟩))⟩
theorem i_vc_apartPairs {k : Nat} {u : SX} {v : SY} (I : i_Rel k u v) (hk : k + 3 ≤ 1536) : wpX_apartPairs (fun r => wpY_apartPairs (fun r' => r' = r ∧ i_Rel (k + 3) u v) v) u := by
  obtain ⟨c, p, l, h, q, g, rfl, rfl, H⟩ := I
  exact ⟨16, ic_xout c p l h q _ ⟨257, ic_yout c p l h g _ ⟨congrArg nI (ic_S_pairs _).symm, ic_mk H⟩ 256 0 rfl⟩ 15 1 rfl⟩
end
