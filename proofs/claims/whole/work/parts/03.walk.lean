/-! the small methods: one answer, for every post, on both sides -/
theorem ic_cl {j : Nat} (hj : j < 16) : (nI j).toNatClampNeg = j := nI_clamp (by omega)
theorem ic_in16 {j : Nat} (hj : j < 16) : vp_in (nI j) 16 := vp_in_nI hj (by decide)
theorem ic_in8 {j : Nat} (hj : j < 8) : vp_in (nI j) 8 := vp_in_nI hj (by decide)
theorem ic_n8 {j : Nat} (hj : j < 8) : ¬ (8 : Int32) ≤ nI j := nI_ge (b := 8) hj (by decide)
theorem ic_n16 {j : Nat} (hj : j < 16) : ¬ (16 : Int32) ≤ nI j := nI_ge (b := 16) hj (by decide)
theorem ic_n7 {j : Nat} (hj : j < 8) : ¬ (7 : Int32) < nI j := nI_nlt (a := 7) (b := j) (by omega) (by decide)
theorem ic_n15 {j : Nat} (hj : j < 16) : ¬ (15 : Int32) < nI j := nI_nlt (a := 15) (b := j) (by omega) (by decide)
theorem ic_n0 {j : Nat} (hj : j < 16) : ¬ nI j < 0 := nI_pos (by omega)
theorem ic_g0 {x : Int32} (h : (8 : Int32) ≤ x) : ¬ x < 0 := Int32.not_lt.mpr (Int32.le_trans (by decide) h)
theorem ic_g7 {x : Int32} (h : (8 : Int32) ≤ x) : (7 : Int32) < x := Int32.lt_of_lt_of_le (by decide) h
theorem ic_h0 {x : Int32} (h : (16 : Int32) ≤ x) : ¬ x < 0 := Int32.not_lt.mpr (Int32.le_trans (by decide) h)
theorem ic_h15 {x : Int32} (h : (16 : Int32) ≤ x) : (15 : Int32) < x := Int32.lt_of_lt_of_le (by decide) h
theorem ic_8n {j : Nat} : (8 : Int32) + nI j = nI (8 + j) := nI_add 8 j
theorem ic_party (c : Int32) (p : Nat → Int32) (l h : Nat → Int64) (q g : Nat → Int32) (x : Int32) :
    ((∀ post : Int32 → Prop, post 0 → wpX_isParty post (c, p, l, h, q) x) ∧ (∀ post : Int32 → Prop, post 0 → wpY_party post (c, p, l, h, g) x)) ∨
    (∃ j, j < 8 ∧ x = nI j ∧ p j ≠ 0 ∧ (∀ post : Int32 → Prop, post 1 → wpX_isParty post (c, p, l, h, q) (nI j)) ∧ (∀ post : Int32 → Prop, post 1 → wpY_party post (c, p, l, h, g) (nI j))) := by
  rcases pk_ix x (n := 8) (by decide) with hx | hx | ⟨j, hj, rfl⟩
  · exact Or.inl ⟨fun _ hp => br_t hx hp, fun _ hp => br_t hx hp⟩
  · exact Or.inl ⟨fun _ hp => br_f (ic_g0 hx) (br_t hx hp), fun _ hp => br_f (ic_g0 hx) (br_t (ic_g7 hx) hp)⟩
  · have e : (nI j).toNatClampNeg = j := ic_cl (by omega)
    have h0 := ic_n0 (j := j) (by omega)
    have hi := ic_in16 (j := j) (by omega)
    by_cases z : p j = 0
    · have z' : p (nI j).toNatClampNeg = 0 := by rw [e]; exact z
      exact Or.inl ⟨fun _ hp => br_f h0 (br_f (ic_n8 hj) ⟨hi, br_t z' hp⟩), fun _ hp => br_f h0 (br_f (ic_n7 hj) ⟨hi, br_t z' hp⟩)⟩
    · have z' : ¬ p (nI j).toNatClampNeg = 0 := by rw [e]; exact z
      exact Or.inr ⟨j, hj, rfl, z, fun _ hp => br_f h0 (br_f (ic_n8 hj) ⟨hi, br_f z' hp⟩), fun _ hp => br_f h0 (br_f (ic_n7 hj) ⟨hi, br_f z' hp⟩)⟩
theorem ic_there (c : Int32) (p : Nat → Int32) (l h : Nat → Int64) (q g : Nat → Int32) (x : Int32) :
    ((∀ post : Int32 → Prop, post 0 → wpX_isThere post (c, p, l, h, q) x) ∧ (∀ post : Int32 → Prop, post 0 → wpY_is post (c, p, l, h, g) x)) ∨
    (∃ j, j < 16 ∧ x = nI j ∧ p j ≠ 0 ∧ (∀ post : Int32 → Prop, post 1 → wpX_isThere post (c, p, l, h, q) (nI j)) ∧ (∀ post : Int32 → Prop, post 1 → wpY_is post (c, p, l, h, g) (nI j))) := by
  rcases pk_ix x (n := 16) (by decide) with hx | hx | ⟨j, hj, rfl⟩
  · exact Or.inl ⟨fun _ hp => br_t hx hp, fun _ hp => br_t hx hp⟩
  · exact Or.inl ⟨fun _ hp => br_f (ic_h0 hx) (br_t hx hp), fun _ hp => br_f (ic_h0 hx) (br_t (ic_h15 hx) hp)⟩
  · have e : (nI j).toNatClampNeg = j := ic_cl (by omega)
    have h0 := ic_n0 (j := j) (by omega)
    have hi := ic_in16 (j := j) (by omega)
    by_cases z : p j = 0
    · have z' : p (nI j).toNatClampNeg = 0 := by rw [e]; exact z
      exact Or.inl ⟨fun _ hp => br_f h0 (br_f (ic_n16 hj) ⟨hi, br_t z' hp⟩), fun _ hp => br_f h0 (br_f (ic_n15 hj) ⟨hi, br_t z' hp⟩)⟩
    · have z' : ¬ p (nI j).toNatClampNeg = 0 := by rw [e]; exact z
      exact Or.inr ⟨j, hj, rfl, z, fun _ hp => br_f h0 (br_f (ic_n16 hj) ⟨hi, br_f z' hp⟩), fun _ hp => br_f h0 (br_f (ic_n15 hj) ⟨hi, br_f z' hp⟩)⟩
/-- 1 if what i knows is known to j too -/
def ic_B (l h : Nat → Int64) (i j : Nat) : Int32 := if (l i &&& (l j ^^^ (-1))) = 0 then (if (h i &&& (h j ^^^ (-1))) = 0 then 1 else 0) else 0
theorem ic_B01 (l h : Nat → Int64) (i j : Nat) : ic_B l h i j = 0 ∨ ic_B l h i j = 1 := by
  unfold ic_B
  split
  · split
    · exact Or.inr rfl
    · exact Or.inl rfl
  · exact Or.inl rfl
theorem ic_B1 {l h : Nat → Int64} {i j : Nat} (e : ic_B l h i j ≠ 0) : (l i &&& (l j ^^^ (-1))) = 0 ∧ (h i &&& (h j ^^^ (-1))) = 0 := by
  unfold ic_B at e
  by_cases h1 : (l i &&& (l j ^^^ (-1))) = 0
  · by_cases h2 : (h i &&& (h j ^^^ (-1))) = 0
    · exact ⟨h1, h2⟩
    · rw [if_pos h1, if_neg h2] at e; exact absurd rfl e
  · rw [if_neg h1] at e; exact absurd rfl e
theorem ic_xB (c : Int32) (p : Nat → Int32) (l h : Nat → Int64) (q : Nat → Int32) {i j : Nat} (hi : i < 16) (hj : j < 16) (post : Int32 → Prop) (hp : post (ic_B l h i j)) : wpX_isBehind post (c, p, l, h, q) (nI i) (nI j) := by
  unfold wpX_isBehind
  dsimp only
  rw [ic_cl hi, ic_cl hj]
  unfold ic_B at hp
  refine ⟨ic_in16 hi, ic_in16 hj, ?_⟩
  by_cases h1 : (l i &&& (l j ^^^ (-1))) = 0
  · rw [if_pos h1] at hp
    refine br_t h1 ⟨ic_in16 hi, ic_in16 hj, ?_⟩
    by_cases h2 : (h i &&& (h j ^^^ (-1))) = 0
    · rw [if_pos h2] at hp; exact br_t h2 hp
    · rw [if_neg h2] at hp; exact br_f h2 hp
  · rw [if_neg h1] at hp; exact br_f h1 hp
theorem ic_yB (c : Int32) (p : Nat → Int32) (l h : Nat → Int64) (g : Nat → Int32) {i j : Nat} (hi : i < 16) (hj : j < 16) (post : Int32 → Prop) (hp : post (ic_B l h i j)) : wpY_follows post (c, p, l, h, g) (nI i) (nI j) := by
  unfold wpY_follows
  dsimp only
  rw [ic_cl hi, ic_cl hj]
  unfold ic_B at hp
  refine ⟨ic_in16 hi, ic_in16 hj, ?_⟩
  by_cases h1 : (l i &&& (l j ^^^ (-1))) = 0
  · rw [if_pos h1] at hp
    refine br_t h1 ⟨ic_in16 hi, ic_in16 hj, ?_⟩
    by_cases h2 : (h i &&& (h j ^^^ (-1))) = 0
    · rw [if_pos h2] at hp; exact br_t h2 hp
    · rw [if_neg h2] at hp; exact br_f h2 hp
  · rw [if_neg h1] at hp; exact br_f h1 hp
/-- how i stands to j -/
def ic_st (l h : Nat → Int64) (i j : Nat) : Int32 := if ic_B l h i j = 0 then (if ic_B l h j i = 0 then 3 else 2) else (if ic_B l h j i = 0 then 1 else 0)
theorem ic_xst (c : Int32) (p : Nat → Int32) (l h : Nat → Int64) (q : Nat → Int32) {i j : Nat} (hi : i < 16) (hj : j < 16) (post : Int32 → Prop) (hp : post (ic_st l h i j)) : wpX_standing post (c, p, l, h, q) (nI i) (nI j) := by
  unfold wpX_standing
  dsimp only
  unfold ic_st at hp
  refine ic_xB c p l h q hi hj _ (ic_xB c p l h q hj hi _ ?_)
  by_cases h1 : ic_B l h i j = 0
  · rw [if_pos h1] at hp
    refine br_t h1 (br_t h1 ?_)
    by_cases h2 : ic_B l h j i = 0
    · rw [if_pos h2] at hp; exact br_t h2 hp
    · rw [if_neg h2] at hp; exact br_f h2 hp
  · rw [if_neg h1] at hp
    refine br_f h1 ?_
    by_cases h2 : ic_B l h j i = 0
    · rw [if_pos h2] at hp; exact br_t h2 (br_f h1 hp)
    · rw [if_neg h2] at hp; exact br_f h2 hp
/-- the answer of compare -/
def ic_cp (p : Nat → Int32) (l h : Nat → Int64) (i j : Nat) : Int32 := if p i = 0 then -1 else if p j = 0 then -1 else ic_st l h i j
theorem ic_yis (c : Int32) (p : Nat → Int32) (l h : Nat → Int64) (g : Nat → Int32) {i : Nat} (hi : i < 16) (post : Int32 → Prop) (h0 : p i = 0 → post 0) (h1 : p i ≠ 0 → post 1) : wpY_is post (c, p, l, h, g) (nI i) := by
  unfold wpY_is
  dsimp only
  rw [ic_cl hi]
  exact br_f (ic_n0 hi) (br_f (ic_n15 hi) ⟨ic_in16 hi, br_c h0 h1⟩)
theorem ic_yfol (c : Int32) (p : Nat → Int32) (l h : Nat → Int64) (g : Nat → Int32) {i j : Nat} (hi : i < 16) (hj : j < 16) (post : Int32 → Prop) (hp : post (ic_st l h i j)) :
    wpY_follows (fun r_15 => (wpY_follows (fun r_21 => (((r_15 = 0 → (wY_compare_46 post r_15 r_21 c p l h g)) ∧ (¬ r_15 = 0 → (((r_21 = 0 → (wY_compare_46 post r_15 r_21 c p l h g)) ∧ (¬ r_21 = 0 → (post 0)))))))) (c, p, l, h, g) (nI j) (nI i))) (c, p, l, h, g) (nI i) (nI j) := by
  unfold ic_st at hp
  refine ic_yB c p l h g hi hj _ (ic_yB c p l h g hj hi _ ?_)
  by_cases h1 : ic_B l h i j = 0
  · rw [if_pos h1] at hp
    refine br_t h1 (br_t h1 ?_)
    by_cases h2 : ic_B l h j i = 0
    · rw [if_pos h2] at hp; exact br_t h2 hp
    · rw [if_neg h2] at hp; exact br_f h2 hp
  · rw [if_neg h1] at hp
    refine br_f h1 ?_
    by_cases h2 : ic_B l h j i = 0
    · rw [if_pos h2] at hp; exact br_t h2 (br_f h1 hp)
    · rw [if_neg h2] at hp; exact br_f h2 hp
theorem ic_ycp (c : Int32) (p : Nat → Int32) (l h : Nat → Int64) (g : Nat → Int32) {i j : Nat} (hi : i < 16) (hj : j < 16) (post : Int32 → Prop) (hp : post (ic_cp p l h i j)) : wpY_compare post (c, p, l, h, g) (nI i) (nI j) := by
  unfold wpY_compare
  dsimp only
  unfold ic_cp at hp
  refine ic_yis c p l h g hi _ (fun z => ?_) (fun z => ?_)
  · rw [if_pos z] at hp; exact br_t rfl hp
  · rw [if_neg z] at hp
    refine br_f (by decide) (ic_yis c p l h g hj _ (fun y => ?_) (fun y => ?_))
    · rw [if_pos y] at hp; exact br_t rfl hp
    · rw [if_neg y] at hp; exact br_f (by decide) (ic_yfol c p l h g hi hj post hp)
/-! writing what is known -/
theorem ic_xcopy (c : Int32) (p : Nat → Int32) (l h : Nat → Int64) (q : Nat → Int32) {i j : Nat} (hi : i < 16) (hj : j < 16) (post : SX → Prop) (hp : post (c, p, vp_updL l j (l i), vp_updL h j (h i), q)) : wpX_copyKnowledge post (c, p, l, h, q) (nI i) (nI j) := by
  unfold wpX_copyKnowledge
  dsimp only
  rw [ic_cl hi, ic_cl hj]
  exact ⟨ic_in16 hi, ic_in16 hj, nm_e ⟨ic_in16 hi, ic_in16 hj, nm_e hp⟩⟩
theorem ic_xlearn (c : Int32) (p : Nat → Int32) (l h : Nat → Int64) (q : Nat → Int32) {i j : Nat} (hi : i < 16) (hj : j < 16) (post : SX → Prop) (hp : post (c, p, vp_updL l j (l j ||| l i), vp_updL h j (h j ||| h i), q)) : wpX_learn post (c, p, l, h, q) (nI i) (nI j) := by
  unfold wpX_learn
  dsimp only
  rw [ic_cl hi, ic_cl hj]
  exact ⟨ic_in16 hj, ic_in16 hi, ic_in16 hj, nm_e ⟨ic_in16 hj, ic_in16 hi, ic_in16 hj, nm_e hp⟩⟩
/-! the count of a set of cells -/
theorem ic_cnt_go (c : Int32) (p : Nat → Int32) (l h : Nat → Int64) (g : Nat → Int32) (w : Int32) (post : Int32 → Prop) (hp : post (nI (ic_pop w))) : ∀ d i, i + d = 32 → wY_count_4 post w c p l h g (d + 1) (nI (ic_S (ic_b w) i)) (nI i) := by
  intro d
  induction d with
  | zero =>
    intro i hi
    have e : i = 32 := by omega
    subst e
    exact br_t (nI_le (a := 32) (b := 32) (by omega) (by decide)) hp
  | succ d ih =>
    intro i hi
    refine br_f (nI_ge (a := i) (b := 32) (by omega) (by decide)) (nm_r (e' := nI (ic_S (ic_b w) (i + 1))) ?_ (nm_r (nI_1 i) (ih (i + 1) (by omega))))
    rw [ic_bit w i (by omega), nI_add]
    rfl
theorem ic_cnt (c : Int32) (p : Nat → Int32) (l h : Nat → Int64) (g : Nat → Int32) (w : Int32) (post : Int32 → Prop) (hp : post (nI (ic_pop w))) : wpY_count post (c, p, l, h, g) w :=
  ⟨33, ic_cnt_go c p l h g w post hp 32 0 rfl⟩
