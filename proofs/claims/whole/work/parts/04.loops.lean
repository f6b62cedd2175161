/-! the relation: all is alike but the cells, of which the component keeps the number -/
def ic_C (p q g : Nat → Int32) : Prop :=
  (∀ i, i < 8 → p i ≠ 0 → q i = nI (ic_pop (g i))) ∧
  (∀ i j, i < 8 → j < 8 → i ≠ j → p i ≠ 0 → p j ≠ 0 → ∀ b, bt (g i) b = true → bt (g j) b = false)
def i_Rel (_ : Nat) (u : SX) (v : SY) : Prop := ∃ (c : Int32) (p : Nat → Int32) (l h : Nat → Int64) (q g : Nat → Int32), u = (c, p, l, h, q) ∧ v = (c, p, l, h, g) ∧ ic_C p q g
theorem ic_mk {k : Nat} {c : Int32} {p : Nat → Int32} {l h : Nat → Int64} {q g : Nat → Int32} (H : ic_C p q g) : i_Rel k (c, p, l, h, q) (c, p, l, h, g) := ⟨c, p, l, h, q, g, rfl, rfl, H⟩
theorem i_up {k : Nat} {u : SX} {v : SY} (h : i_Rel k u v) : i_Rel (k + 3) u v := h
theorem ic_m1 : (32 : Int32) = nI (ic_pop (-1)) := by decide +kernel
theorem i_vc0 : wpX_init (fun u => wpY_init (fun v => i_Rel 0 u v)) := by
  refine nm_e (nm_e (nm_e (nm_e (ic_mk ⟨fun i hi hp => ?_, fun i j hi hj hij hp hp' => ?_⟩))))
  · by_cases e : i = 0
    · subst e; rw [pk_us, pk_us]; exact ic_m1
    · rw [pk_un e] at hp; exact absurd rfl hp
  · by_cases e : i = 0
    · rw [pk_un (by omega)] at hp'; exact absurd rfl hp'
    · rw [pk_un e] at hp; exact absurd rfl hp
/-! slots and present bits -/
theorem ic_slots (c : Int32) (p : Nat → Int32) (l h : Nat → Int64) (q g : Nat → Int32) (f : Nat) (hf : f ≤ 8) : ∀ d i, i + d = 8 → ∀ acc : Int32, ∃ r : Int32,
    (∀ post : Int32 → Prop, post r → wX_presentBits_5 post (nI f) 8 c p l h q (d + 1) acc (nI i)) ∧ (∀ post : Int32 → Prop, post r → wY_slots_4 post (nI f) c p l h g (d + 1) acc (nI i)) := by
  intro d
  induction d with
  | zero =>
    intro i hi acc
    have h8 : (8 : Int32) ≤ nI i := nI_le (a := 8) (by omega) (by omega)
    exact ⟨acc, fun _ hp => br_t h8 hp, fun _ hp => br_t h8 hp⟩
  | succ d ih =>
    intro i hi acc
    have h8 : ¬ (8 : Int32) ≤ nI i := ic_n8 (by omega)
    have hin : vp_in (nI f + nI i) 16 := by rw [nI_add]; exact ic_in16 (by omega)
    by_cases z : p (nI f + nI i).toNatClampNeg = 0
    · obtain ⟨r, hX, hY⟩ := ih (i + 1) (by omega) acc
      exact ⟨r, fun post hp => br_f h8 ⟨hin, br_t z (nm_r (nI_1 i) (hX post hp))⟩, fun post hp => br_f h8 ⟨hin, br_t z (nm_r (nI_1 i) (hY post hp))⟩⟩
    · obtain ⟨r, hX, hY⟩ := ih (i + 1) (by omega) (acc ||| ((1 : Int32) <<< (nI i &&& 31)))
      exact ⟨r, fun post hp => br_f h8 ⟨hin, br_f z (nm_e (nm_r (nI_1 i) (hX post hp)))⟩, fun post hp => br_f h8 ⟨hin, br_f z (nm_e (nm_r (nI_1 i) (hY post hp)))⟩⟩
/-! behind -/
theorem ic_behind (c : Int32) (p : Nat → Int32) (l h : Nat → Int64) (q g : Nat → Int32) (x : Nat) (hx : x < 16) (hpx : p x ≠ 0) : ∀ d i, i + d = 16 → ∀ acc : Int32, ∃ r : Int32,
    (∀ post : Int32 → Prop, post r → wX_behind_14 post (nI x) c p l h q (d + 1) acc (nI i)) ∧ (∀ post : Int32 → Prop, post r → wY_behind_4 post (nI x) c p l h g (d + 1) acc (nI i)) := by
  intro d
  induction d with
  | zero =>
    intro i hi acc
    have h8 : (16 : Int32) ≤ nI i := nI_le (a := 16) (by omega) (by omega)
    exact ⟨acc, fun _ hp => br_t h8 hp, fun _ hp => br_t h8 hp⟩
  | succ d ih =>
    intro i hi acc
    have h8 : ¬ (16 : Int32) ≤ nI i := ic_n16 (by omega)
    have hi16 : i < 16 := by omega
    have hin : vp_in (nI i) 16 := ic_in16 hi16
    have yis : ∀ post : Int32 → Prop, post 1 → wpY_is post (c, p, l, h, g) (nI x) := fun post hp => ic_yis c p l h g hx post (fun z => absurd z hpx) (fun _ => hp)
    have h10 : ¬ (1 : Int32) = 0 := by decide
    by_cases z : p i = 0
    · have z' : p (nI i).toNatClampNeg = 0 := by rw [ic_cl hi16]; exact z
      obtain ⟨r, hX, hY⟩ := ih (i + 1) (by omega) acc
      exact ⟨r, fun post hp => br_f h8 ⟨hin, br_t z' (nm_r (nI_1 i) (hX post hp))⟩,
        fun post hp => br_f h8 (yis _ (br_f h10 ⟨hin, br_t z' (nm_r (nI_1 i) (hY post hp))⟩))⟩
    · have z' : ¬ p (nI i).toNatClampNeg = 0 := by rw [ic_cl hi16]; exact z
      by_cases b : ic_B l h i x = 0
      · obtain ⟨r, hX, hY⟩ := ih (i + 1) (by omega) acc
        exact ⟨r, fun post hp => br_f h8 ⟨hin, br_f z' (ic_xB c p l h q hi16 hx _ (br_t b (nm_r (nI_1 i) (hX post hp))))⟩,
          fun post hp => br_f h8 (yis _ (br_f h10 ⟨hin, br_f z' (ic_yB c p l h g hi16 hx _ (br_t b (nm_r (nI_1 i) (hY post hp))))⟩))⟩
      · obtain ⟨r, hX, hY⟩ := ih (i + 1) (by omega) (acc ||| ((1 : Int32) <<< (nI i &&& 31)))
        exact ⟨r, fun post hp => br_f h8 ⟨hin, br_f z' (ic_xB c p l h q hi16 hx _ (br_f b (nm_e (nm_r (nI_1 i) (hX post hp)))))⟩,
          fun post hp => br_f h8 (yis _ (br_f h10 ⟨hin, br_f z' (ic_yB c p l h g hi16 hx _ (br_f b (nm_e (nm_r (nI_1 i) (hY post hp)))))⟩))⟩
/-! newest -/
/-- the reference's inner loop once the flag is down -/
theorem ic_ydown (c : Int32) (p : Nat → Int32) (l h : Nat → Int64) (g : Nat → Int32) (x : Nat) (post : Int32 → Prop) (J : Int32 → Int32 → Prop) (acc : Int32) (hJ : J acc (nI (x + 1))) : ∀ d i, i + d = 16 → wY_newest_20 post J acc (nI x) c p l h g (d + 1) 0 (nI i) := by
  intro d
  induction d with
  | zero =>
    intro i hi
    have h8 : (16 : Int32) ≤ nI i := nI_le (a := 16) (by omega) (by omega)
    exact br_t h8 (br_t rfl (nm_r (nI_1 x) hJ))
  | succ d ih =>
    intro i hi
    exact br_f (ic_n16 (by omega)) (br_t rfl (nm_r (nI_1 i) (ih (i + 1) (by omega))))
theorem ic_out (c : Int32) (p : Nat → Int32) (l h : Nat → Int64) (q g : Nat → Int32) (x : Nat) (hx : x < 16) : ∀ d i, i + d = 16 → ∃ r : Int32,
    (∀ post : Int32 → Prop, post r → wX_isOutdated_2 post (nI x) c p l h q (d + 1) (nI i)) ∧
    (∀ (post : Int32 → Prop) (J : Int32 → Int32 → Prop) (acc t : Int32), t ≠ 0 → (r = 0 → J (acc ||| ((1 : Int32) <<< (nI x &&& 31))) (nI (x + 1))) → (r ≠ 0 → J acc (nI (x + 1))) → wY_newest_20 post J acc (nI x) c p l h g (d + 1) t (nI i)) := by
  intro d
  induction d with
  | zero =>
    intro i hi
    have h8 : (16 : Int32) ≤ nI i := nI_le (a := 16) (by omega) (by omega)
    exact ⟨0, fun _ hp => br_t h8 hp, fun _ _ _ _ ht h0 _ => br_t h8 (br_f ht (nm_e (nm_r (nI_1 x) (h0 rfl))))⟩
  | succ d ih =>
    intro i hi
    have h8 : ¬ (16 : Int32) ≤ nI i := ic_n16 (by omega)
    have hi16 : i < 16 := by omega
    have hin : vp_in (nI i) 16 := ic_in16 hi16
    have h10 : (1 : Int32) ≠ 0 := by decide
    obtain ⟨r, hX, hY⟩ := ih (i + 1) (by omega)
    by_cases z : p i = 0
    · have z' : p (nI i).toNatClampNeg = 0 := by rw [ic_cl hi16]; exact z
      exact ⟨r, fun post hp => br_f h8 ⟨hin, br_t z' (nm_r (nI_1 i) (hX post hp))⟩,
        fun post J acc t ht h0 h1 => br_f h8 (br_f ht ⟨hin, br_t z' (nm_r (nI_1 i) (hY post J acc 1 h10 h0 h1))⟩)⟩
    · have z' : ¬ p (nI i).toNatClampNeg = 0 := by rw [ic_cl hi16]; exact z
      by_cases b : ic_B l h x i = 0
      · have s : ¬ ic_st l h x i = 1 := by
          unfold ic_st
          rw [if_pos b]
          split <;> decide
        exact ⟨r, fun post hp => br_f h8 ⟨hin, br_f z' (ic_xst c p l h q hx hi16 _ (br_f s (nm_r (nI_1 i) (hX post hp))))⟩,
          fun post J acc t ht h0 h1 => br_f h8 (br_f ht ⟨hin, br_f z' (ic_yB c p l h g hx hi16 _ (br_t b (nm_r (nI_1 i) (hY post J acc 1 h10 h0 h1))))⟩)⟩
      · by_cases b2 : ic_B l h i x = 0
        · have s : ic_st l h x i = 1 := by
            unfold ic_st
            rw [if_neg b, if_pos b2]
          exact ⟨1, fun post hp => br_f h8 ⟨hin, br_f z' (ic_xst c p l h q hx hi16 _ (br_t s hp))⟩,
            fun post J acc t ht h0 h1 => br_f h8 (br_f ht ⟨hin, br_f z' (ic_yB c p l h g hx hi16 _ (br_f b (ic_yB c p l h g hi16 hx _ (br_t b2 (nm_r (nI_1 i) (ic_ydown c p l h g x post J acc (h1 h10) d (i + 1) (by omega)))))))⟩)⟩
        · have s : ¬ ic_st l h x i = 1 := by
            unfold ic_st
            rw [if_neg b, if_neg b2]
            decide
          exact ⟨r, fun post hp => br_f h8 ⟨hin, br_f z' (ic_xst c p l h q hx hi16 _ (br_f s (nm_r (nI_1 i) (hX post hp))))⟩,
            fun post J acc t ht h0 h1 => br_f h8 (br_f ht ⟨hin, br_f z' (ic_yB c p l h g hx hi16 _ (br_f b (ic_yB c p l h g hi16 hx _ (br_f b2 (nm_r (nI_1 i) (hY post J acc 1 h10 h0 h1))))))⟩)⟩
theorem ic_newest (c : Int32) (p : Nat → Int32) (l h : Nat → Int64) (q g : Nat → Int32) : ∀ d i, i + d = 16 → ∀ acc : Int32, ∃ r : Int32,
    (∀ post : Int32 → Prop, post r → wX_newest_4 post c p l h q (d + 1) acc (nI i)) ∧ (∀ post : Int32 → Prop, post r → wY_newest_4 post c p l h g (d + 1) acc (nI i)) := by
  intro d
  induction d with
  | zero =>
    intro i hi acc
    have h8 : (16 : Int32) ≤ nI i := nI_le (a := 16) (by omega) (by omega)
    exact ⟨acc, fun _ hp => br_t h8 hp, fun _ hp => br_t h8 hp⟩
  | succ d ih =>
    intro i hi acc
    have h8 : ¬ (16 : Int32) ≤ nI i := ic_n16 (by omega)
    have hi16 : i < 16 := by omega
    have hin : vp_in (nI i) 16 := ic_in16 hi16
    by_cases z : p i = 0
    · have z' : p (nI i).toNatClampNeg = 0 := by rw [ic_cl hi16]; exact z
      obtain ⟨r, hX, hY⟩ := ih (i + 1) (by omega) acc
      exact ⟨r, fun post hp => br_f h8 ⟨hin, br_t z' (nm_r (nI_1 i) (hX post hp))⟩,
        fun post hp => br_f h8 ⟨hin, nm_r z' ⟨17, ic_ydown c p l h g i post _ acc (hY post hp) 16 0 rfl⟩⟩⟩
    · have z' : ¬ p (nI i).toNatClampNeg = 0 := by rw [ic_cl hi16]; exact z
      obtain ⟨o, oX, oY⟩ := ic_out c p l h q g i hi16 16 0 rfl
      by_cases b : o = 0
      · obtain ⟨r, hX, hY⟩ := ih (i + 1) (by omega) (acc ||| ((1 : Int32) <<< (nI i &&& 31)))
        exact ⟨r, fun post hp => br_f h8 ⟨hin, br_f z' ⟨17, oX _ (br_t b (nm_e (nm_r (nI_1 i) (hX post hp))))⟩⟩,
          fun post hp => br_f h8 ⟨hin, nm_e ⟨17, oY post _ acc _ z' (fun _ => hY post hp) (fun n => absurd b n)⟩⟩⟩
      · obtain ⟨r, hX, hY⟩ := ih (i + 1) (by omega) acc
        exact ⟨r, fun post hp => br_f h8 ⟨hin, br_f z' ⟨17, oX _ (br_f b (nm_r (nI_1 i) (hX post hp)))⟩⟩,
          fun post hp => br_f h8 ⟨hin, nm_e ⟨17, oY post _ acc _ z' (fun n => absurd n b) (fun _ => hY post hp)⟩⟩⟩
