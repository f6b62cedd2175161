/-! split: the reference deals its cells out one by one -/
theorem ic_free (c : Int32) (p : Nat → Int32) (l h : Nat → Int64) (q g : Nat → Int32) : ∀ d i, i + d = 8 → ∃ s, s ≤ 8 ∧ (s < 8 → p s = 0) ∧
    (∀ post : Int32 → Prop, post (nI s) → wX_leastFreeSlot_2 post c p l h q (d + 1) (nI i)) ∧
    (∀ (post : Int32 → SY → Prop) (x1 x2 : Int32), wY_split_44 post x1 x2 (nI s) c p l h g → wY_split_23 post x1 x2 c p l h g (d + 1) (nI i)) := by
  intro d
  induction d with
  | zero =>
    intro i hi
    have e : i = 8 := by omega
    subst e
    have h8 : (8 : Int32) ≤ nI 8 := nI_le (a := 8) (by omega) (by decide)
    exact ⟨8, by omega, fun z => absurd z (by omega), fun _ hp => br_t h8 hp, fun _ _ _ hp => br_t h8 hp⟩
  | succ d ih =>
    intro i hi
    have h8 : ¬ (8 : Int32) ≤ nI i := ic_n8 (by omega)
    have hi16 : i < 16 := by omega
    by_cases z : p i = 0
    · have z' : p (nI i).toNatClampNeg = 0 := by rw [ic_cl hi16]; exact z
      exact ⟨i, by omega, fun _ => z, fun _ hp => br_f h8 ⟨ic_in16 hi16, br_t z' hp⟩, fun _ _ _ hp => br_f h8 ⟨ic_in16 hi16, br_t z' hp⟩⟩
    · have z' : ¬ p (nI i).toNatClampNeg = 0 := by rw [ic_cl hi16]; exact z
      obtain ⟨s, hs, hps, hX, hY⟩ := ih (i + 1) (by omega)
      exact ⟨s, hs, hps, fun post hp => br_f h8 ⟨ic_in16 hi16, br_f z' (nm_r (nI_1 i) (hX post hp))⟩,
        fun post x1 x2 hp => br_f h8 ⟨ic_in16 hi16, br_f z' (nm_r (nI_1 i) (hY post x1 x2 hp))⟩⟩
/-- after the bits below i: G j keeps the first R of the set w, G s has the others -/
def ic_Inv (g : Nat → Int32) (w : Int32) (j s R i : Nat) (G : Nat → Int32) : Prop :=
  (∀ t, t ≠ j → t ≠ s → G t = g t) ∧
  (∀ b, bt (G j) b = true → bt w b = true) ∧
  (∀ b, bt (G s) b = true → bt w b = true ∧ bt (G j) b = false) ∧
  (∀ b, i ≤ b → b < 32 → bt (G j) b = bt w b ∧ bt (G s) b = false) ∧
  ic_S (ic_b (G j)) i + ic_S (ic_b (G s)) i = ic_S (ic_b w) i ∧
  ic_S (ic_b (G j)) i = min R (ic_S (ic_b w) i)
theorem ic_inv_skip {g : Nat → Int32} {w : Int32} {j s R i : Nat} {G : Nat → Int32} (hi : i < 32) (I : ic_Inv g w j s R i G) (hb : bt (G j) i = false) : ic_Inv g w j s R (i + 1) G ∧ ic_S (ic_b w) (i + 1) = ic_S (ic_b w) i := by
  obtain ⟨h1, h2, h3, h4, h5, h6⟩ := I
  obtain ⟨k1, k2⟩ := h4 i (Nat.le_refl i) hi
  have b1 : ic_b (G j) i = 0 := ic_b_f hb
  have b2 : ic_b (G s) i = 0 := ic_b_f k2
  have b3 : ic_b w i = 0 := ic_b_f (k1.symm.trans hb)
  refine ⟨⟨h1, h2, h3, fun b hb' hb2 => h4 b (by omega) hb2, ?_, ?_⟩, ?_⟩
  · show ic_S (ic_b (G j)) i + ic_b (G j) i + (ic_S (ic_b (G s)) i + ic_b (G s) i) = ic_S (ic_b w) i + ic_b w i
    omega
  · show ic_S (ic_b (G j)) i + ic_b (G j) i = min R (ic_S (ic_b w) i + ic_b w i)
    rw [b1, b3]; exact h6
  · show ic_S (ic_b w) i + ic_b w i = _
    omega
theorem ic_inv_keep {g : Nat → Int32} {w : Int32} {j s R i : Nat} {G : Nat → Int32} (hi : i < 32) (I : ic_Inv g w j s R i G) (hb : bt (G j) i = true) (hR : ic_S (ic_b w) i < R) : ic_Inv g w j s R (i + 1) G ∧ ic_S (ic_b w) (i + 1) = ic_S (ic_b w) i + 1 := by
  obtain ⟨h1, h2, h3, h4, h5, h6⟩ := I
  obtain ⟨k1, k2⟩ := h4 i (Nat.le_refl i) hi
  have b1 : ic_b (G j) i = 1 := ic_b_t hb
  have b2 : ic_b (G s) i = 0 := ic_b_f k2
  have b3 : ic_b w i = 1 := ic_b_t (k1.symm.trans hb)
  refine ⟨⟨h1, h2, h3, fun b hb' hb2 => h4 b (by omega) hb2, ?_, ?_⟩, ?_⟩
  · show ic_S (ic_b (G j)) i + ic_b (G j) i + (ic_S (ic_b (G s)) i + ic_b (G s) i) = ic_S (ic_b w) i + ic_b w i
    omega
  · show ic_S (ic_b (G j)) i + ic_b (G j) i = min R (ic_S (ic_b w) i + ic_b w i)
    omega
  · show ic_S (ic_b w) i + ic_b w i = _
    omega
theorem ic_inv_move {g : Nat → Int32} {w : Int32} {j s R i : Nat} {G G' : Nat → Int32} (hi : i < 32) (I : ic_Inv g w j s R i G) (hb : bt (G j) i = true) (hR : R ≤ ic_S (ic_b w) i)
    (e1 : ∀ t, t ≠ j → t ≠ s → G' t = G t) (e2 : ∀ b, b < 32 → bt (G' j) b = (bt (G j) b && !decide (b = i))) (e3 : ∀ b, b < 32 → bt (G' s) b = (bt (G s) b || decide (b = i))) : ic_Inv g w j s R (i + 1) G' ∧ ic_S (ic_b w) (i + 1) = ic_S (ic_b w) i + 1 := by
  obtain ⟨h1, h2, h3, h4, h5, h6⟩ := I
  obtain ⟨k1, k2⟩ := h4 i (Nat.le_refl i) hi
  have n2 : ∀ b, b < 32 → b ≠ i → bt (G' j) b = bt (G j) b := fun b hb hne => by rw [e2 b hb, decide_eq_false hne]; simp
  have n3 : ∀ b, b < 32 → b ≠ i → bt (G' s) b = bt (G s) b := fun b hb hne => by rw [e3 b hb, decide_eq_false hne]; simp
  have t2 : bt (G' j) i = false := by rw [e2 i hi, decide_eq_true rfl]; simp
  have t3 : bt (G' s) i = true := by rw [e3 i hi, decide_eq_true rfl]; simp
  have wi : bt w i = true := k1.symm.trans hb
  have lt : ∀ {x : Int32} {b : Nat}, bt x b = true → b < 32 := fun {x b} e => by
    rcases Nat.lt_or_ge b 32 with z | z
    · exact z
    · rw [b_big z] at e; exact absurd e (by decide)
  have b1 : ic_b (G' j) i = 0 := ic_b_f t2
  have b2 : ic_b (G' s) i = 1 := ic_b_t t3
  have b3 : ic_b w i = 1 := ic_b_t wi
  have s1 : ic_S (ic_b (G' j)) i = ic_S (ic_b (G j)) i := ic_S_ext i (fun b hb => by unfold ic_b; rw [n2 b (by omega) (by omega)])
  have s2 : ic_S (ic_b (G' s)) i = ic_S (ic_b (G s)) i := ic_S_ext i (fun b hb => by unfold ic_b; rw [n3 b (by omega) (by omega)])
  refine ⟨⟨fun t a b => (e1 t a b).trans (h1 t a b), fun b hbt => ?_, fun b hbt => ?_, fun b hb' hb2 => ?_, ?_, ?_⟩, ?_⟩
  · by_cases e : b = i
    · rw [e]; exact wi
    · exact h2 b ((n2 b (lt hbt) e).symm.trans hbt)
  · by_cases e : b = i
    · rw [e]; exact ⟨wi, t2⟩
    · have z := h3 b ((n3 b (lt hbt) e).symm.trans hbt)
      exact ⟨z.1, (n2 b (lt hbt) e).trans z.2⟩
  · have z := h4 b (by omega) hb2
    exact ⟨(n2 b hb2 (by omega)).trans z.1, (n3 b hb2 (by omega)).trans z.2⟩
  · show ic_S (ic_b (G' j)) i + ic_b (G' j) i + (ic_S (ic_b (G' s)) i + ic_b (G' s) i) = ic_S (ic_b w) i + ic_b w i
    omega
  · show ic_S (ic_b (G' j)) i + ic_b (G' j) i = min R (ic_S (ic_b w) i + ic_b w i)
    omega
  · show ic_S (ic_b w) i + ic_b w i = _
    omega
theorem ic_upd_same (f : Nat → Int32) (k : Nat) : upd f k (f k) = f := by
  funext j
  by_cases e : j = k
  · subst e; exact pk_us
  · exact pk_un e
theorem ic_le0 {a b : Nat} (ha : a ≤ 32) (hb : b ≤ 32) : nI a - nI b ≤ 0 ↔ a ≤ b := by
  rw [Int32.le_iff_toInt_le, pk_sub_toInt (by omega) (by omega), show (0 : Int32).toInt = 0 from by decide]
  omega
theorem ic_dec (a b : Nat) : nI a - nI b + (-1) = nI a - nI (b + 1) := by
  rw [← nI_1]
  generalize nI a = x
  generalize nI b = y
  grind
theorem ic_deal (post : Int32 → SY → Prop) (c : Int32) (p : Nat → Int32) (l h : Nat → Int64) (g : Nat → Int32) (w : Int32) (j s R : Nat) (hj : j < 8) (hs : s < 8) (hjs : j ≠ s) (hR : R ≤ 32)
    (hp : ∀ G, ic_Inv g w j s R 32 G → post (nI s) (c, p, l, h, G)) :
    ∀ d i G, i + d = 32 → ic_Inv g w j s R i G → wY_split_106 post (nI j) (nI s) c (d + 1) (nI R - nI (ic_S (ic_b w) i)) (nI i) p l h G := by
  intro d
  induction d with
  | zero =>
    intro i G hi I
    have e : i = 32 := by omega
    subst e
    exact br_t (nI_le (a := 32) (by omega) (by decide)) (hp G I)
  | succ d ih =>
    intro i G hi I
    have hi32 : i < 32 := by omega
    have cj : (nI j).toNatClampNeg = j := ic_cl (by omega)
    have cs : (nI s).toNatClampNeg = s := ic_cl (by omega)
    have hS : ic_S (ic_b w) i ≤ 32 := Nat.le_trans (ic_S_le (ic_b_le w) i) (by omega)
    refine br_f (nI_ge (b := 32) hi32 (by decide)) ⟨ic_in8 hj, ?_⟩
    cases hb : bt (G j) i
    · have t : ¬ ((G (nI j).toNatClampNeg >>> (nI i &&& 31)) &&& 1) = 1 := by
        rw [cj, ic_bit1 _ i hi32, hb]; decide
      obtain ⟨I', e⟩ := ic_inv_skip hi32 I hb
      have H := ih (i + 1) G (by omega) I'
      rw [e] at H
      exact br_f t (nm_r (nI_1 i) H)
    · have t : ((G (nI j).toNatClampNeg >>> (nI i &&& 31)) &&& 1) = 1 := by
        rw [cj, ic_bit1 _ i hi32, hb]
      refine br_t t ?_
      rcases Nat.lt_or_ge (ic_S (ic_b w) i) R with hlt | hge
      · have n0 : ¬ nI R - nI (ic_S (ic_b w) i) ≤ 0 := by rw [ic_le0 hR hS]; omega
        obtain ⟨I', e⟩ := ic_inv_keep hi32 I hb hlt
        have H := ih (i + 1) G (by omega) I'
        rw [e] at H
        refine br_f n0 ⟨ic_in8 hs, ic_in8 hs, nm_r (e' := G) ?_ (br_f n0 ⟨ic_in8 hj, ic_in8 hj, nm_r (e' := G) ?_ (nm_r (ic_dec R _) (nm_r (nI_1 i) H))⟩)⟩
        · exact ic_upd_same G _
        · exact ic_upd_same G _
      · have y0 : nI R - nI (ic_S (ic_b w) i) ≤ 0 := by rw [ic_le0 hR hS]; omega
        refine br_t y0 ⟨ic_in8 hs, ic_in8 hs, nm_e (br_t y0 ⟨ic_in8 hj, ic_in8 hj, nm_e (nm_r (ic_dec R _) (nm_r (nI_1 i) ?_))⟩)⟩
        rw [cj, cs]
        have G1 : upd G s (G s ||| ((1 : Int32) <<< (nI i &&& 31))) j = G j := pk_un hjs
        rw [G1]
        obtain ⟨I', e⟩ := ic_inv_move (G' := upd (upd G s (G s ||| ((1 : Int32) <<< (nI i &&& 31)))) j (G j &&& (((1 : Int32) <<< (nI i &&& 31)) ^^^ (-1)))) hi32 I hb hge
          (fun t a b => by rw [pk_un a, pk_un b])
          (fun b hb => by rw [pk_us, b_and, b_xor, ic_one i hi32 b hb, b_m1 b hb, Bool.xor_true])
          (fun b hb => by rw [pk_un (Ne.symm hjs), pk_us, b_or, ic_one i hi32 b hb])
        have H := ih (i + 1) _ (by omega) I'
        rw [e] at H
        exact H
