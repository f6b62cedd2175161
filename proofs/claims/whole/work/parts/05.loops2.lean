/-! written notes -/
theorem ic_xw (c : Int32) (p : Nat → Int32) (l h : Nat → Int64) (q : Nat → Int32) {n : Nat} (hn : n < 8) (post : Int32 → Prop) (h0 : p (8 + n) = 0 → post 0) (h1 : p (8 + n) ≠ 0 → post 1) : wpX_isWritten post (c, p, l, h, q) (nI n) := by
  unfold wpX_isWritten wpX_isNoteNumber
  dsimp only
  refine br_f (ic_n0 (by omega)) (br_f (ic_n8 hn) (br_f (by decide) ?_))
  rw [ic_8n, ic_cl (j := 8 + n) (by omega)]
  exact ⟨ic_in16 (by omega), br_c h0 h1⟩
theorem ic_xwn (c : Int32) (p : Nat → Int32) (l h : Nat → Int64) (q : Nat → Int32) {x : Int32} (hx : x < 0 ∨ (8 : Int32) ≤ x) (post : Int32 → Prop) (h0 : post 0) : wpX_isWritten post (c, p, l, h, q) x := by
  unfold wpX_isWritten wpX_isNoteNumber
  dsimp only
  rcases hx with hx | hx
  · exact br_t hx (br_t rfl h0)
  · exact br_f (ic_g0 hx) (br_t hx (br_t rfl h0))
/-! everywhere -/
theorem ic_every (c : Int32) (p : Nat → Int32) (l h : Nat → Int64) (q g : Nat → Int32) (n : Nat) (hn : n < 8) : ∀ d i, i + d = 8 → ∃ r : Int32,
    (∀ post : Int32 → Prop, post r → wX_everywhere_12 post (nI n) c p l h q (d + 1) (nI i)) ∧ (∀ post : Int32 → Prop, post r → wY_everywhere_30 post (nI n) c p l h g (d + 1) 1 (nI i)) := by
  intro d
  induction d with
  | zero =>
    intro i hi
    have h8 : (8 : Int32) ≤ nI i := nI_le (a := 8) (by omega) (by omega)
    exact ⟨1, fun _ hp => br_t h8 hp, fun _ hp => br_t h8 ⟨rfl, hp⟩⟩
  | succ d ih =>
    intro i hi
    have h8 : ¬ (8 : Int32) ≤ nI i := ic_n8 (by omega)
    have hi16 : i < 16 := by omega
    have hn16 : 8 + n < 16 := by omega
    have hin : vp_in (nI i) 16 := ic_in16 hi16
    have h10 : ¬ (1 : Int32) = 0 := by decide
    obtain ⟨r, hX, hY⟩ := ih (i + 1) (by omega)
    have xB : ∀ post : Int32 → Prop, post (ic_B l h (8 + n) i) → wpX_isBehind post (c, p, l, h, q) (8 + nI n) (nI i) := fun post hp => by
      rw [ic_8n]; exact ic_xB c p l h q hn16 hi16 post hp
    have yB : ∀ post : Int32 → Prop, post (ic_B l h (8 + n) i) → wpY_follows post (c, p, l, h, g) (8 + nI n) (nI i) := fun post hp => by
      rw [ic_8n]; exact ic_yB c p l h g hn16 hi16 post hp
    by_cases z : p i = 0
    · have z' : p (nI i).toNatClampNeg = 0 := by rw [ic_cl hi16]; exact z
      exact ⟨r, fun post hp => br_f h8 ⟨hin, br_t z' (nm_r (nI_1 i) (hX post hp))⟩,
        fun post hp => br_f h8 (br_f h10 ⟨hin, br_t z' (nm_r (nI_1 i) (hY post hp))⟩)⟩
    · have z' : ¬ p (nI i).toNatClampNeg = 0 := by rw [ic_cl hi16]; exact z
      by_cases b : ic_B l h (8 + n) i = 0
      · refine ⟨0, fun post hp => br_f h8 ⟨hin, br_f z' (xB _ (br_t b hp))⟩,
          fun post hp => br_f h8 (br_f h10 ⟨hin, br_f z' (yB _ (br_t b (nm_r (nI_1 i) ?_)))⟩)⟩
        exact br_c (fun _ => ⟨rfl, hp⟩) (fun _ => br_t rfl ⟨rfl, hp⟩)
      · exact ⟨r, fun post hp => br_f h8 ⟨hin, br_f z' (xB _ (br_f b (nm_r (nI_1 i) (hX post hp))))⟩,
          fun post hp => br_f h8 (br_f h10 ⟨hin, br_f z' (yB _ (br_f b (nm_r (nI_1 i) (hY post hp))))⟩)⟩
/-! pairs apart -/
def ic_f (p : Nat → Int32) (l h : Nat → Int64) (x y : Nat) : Nat := if ic_cp p l h x y = 3 then 1 else 0
theorem ic_f0 {p : Nat → Int32} {l h : Nat → Int64} {x y : Nat} (e : ¬ ic_cp p l h x y = 3) : ic_f p l h x y = 0 := if_neg e
theorem ic_f1 {p : Nat → Int32} {l h : Nat → Int64} {x y : Nat} (e : ic_cp p l h x y = 3) : ic_f p l h x y = 1 := if_pos e
theorem ic_xin (c : Int32) (p : Nat → Int32) (l h : Nat → Int64) (q : Nat → Int32) (post : Int32 → Prop) (J : Int32 → Int32 → Prop) (y A : Nat) (hy : y < 16) (hJ : J (nI (A + ic_S (fun x => ic_f p l h x y) y)) (nI (y + 1))) :
    ∀ d i, i + d = y → wX_apartPairs_12 post J (nI y) c p l h q (d + 1) (nI (A + ic_S (fun x => ic_f p l h x y) i)) (nI i) := by
  intro d
  induction d with
  | zero =>
    intro i hi
    have e : i = y := by omega
    subst e
    exact br_t (nI_le (by omega) (by omega)) (nm_r (nI_1 i) hJ)
  | succ d ih =>
    intro i hi
    have hn : ¬ nI y ≤ nI i := nI_ge (by omega) (by omega)
    have hi16 : i < 16 := by omega
    have H := ih (i + 1) (by omega)
    have stay : ic_f p l h i y = 0 → wX_apartPairs_12 post J (nI y) c p l h q (d + 1) (nI (A + ic_S (fun x => ic_f p l h x y) i)) (nI (i + 1)) := fun e => by
      have e2 : ic_S (fun x => ic_f p l h x y) (i + 1) = ic_S (fun x => ic_f p l h x y) i := by
        show ic_S (fun x => ic_f p l h x y) i + ic_f p l h i y = _
        omega
      rw [e2] at H
      exact H
    by_cases z : p i = 0
    · have z' : p (nI i).toNatClampNeg = 0 := by rw [ic_cl hi16]; exact z
      have e : ic_f p l h i y = 0 := ic_f0 (by unfold ic_cp; rw [if_pos z]; decide)
      exact br_f hn ⟨ic_in16 hi16, br_t z' (nm_r (nI_1 i) (stay e))⟩
    · have z' : ¬ p (nI i).toNatClampNeg = 0 := by rw [ic_cl hi16]; exact z
      by_cases w : p y = 0
      · have w' : p (nI y).toNatClampNeg = 0 := by rw [ic_cl hy]; exact w
        have e : ic_f p l h i y = 0 := ic_f0 (by unfold ic_cp; rw [if_neg z, if_pos w]; decide)
        exact br_f hn ⟨ic_in16 hi16, br_f z' ⟨ic_in16 hy, br_t w' (nm_r (nI_1 i) (stay e))⟩⟩
      · have w' : ¬ p (nI y).toNatClampNeg = 0 := by rw [ic_cl hy]; exact w
        have cp : ic_cp p l h i y = ic_st l h i y := by unfold ic_cp; rw [if_neg z, if_neg w]
        by_cases s : ic_st l h i y = 3
        · have e2 : A + ic_S (fun x => ic_f p l h x y) i + 1 = A + ic_S (fun x => ic_f p l h x y) (i + 1) := by
            have e := ic_f1 (cp.trans s)
            show _ = A + (ic_S (fun x => ic_f p l h x y) i + ic_f p l h i y)
            omega
          refine br_f hn ⟨ic_in16 hi16, br_f z' ⟨ic_in16 hy, br_f w' (ic_xst c p l h q hi16 hy _ (br_t s (nm_r ((nI_1 _).trans (congrArg nI e2)) (nm_r (nI_1 i) H))))⟩⟩
        · have e : ic_f p l h i y = 0 := ic_f0 (by rw [cp]; exact s)
          exact br_f hn ⟨ic_in16 hi16, br_f z' ⟨ic_in16 hy, br_f w' (ic_xst c p l h q hi16 hy _ (br_f s (nm_r (nI_1 i) (stay e))))⟩⟩
theorem ic_xout (c : Int32) (p : Nat → Int32) (l h : Nat → Int64) (q : Nat → Int32) (post : Int32 → Prop) (hp : post (nI (ic_S (fun y => ic_S (fun x => ic_f p l h x y) y) 16))) :
    ∀ d y, y + d = 16 → wX_apartPairs_4 post c p l h q (d + 1) (nI (ic_S (fun y => ic_S (fun x => ic_f p l h x y) y) y)) (nI y) := by
  intro d
  induction d with
  | zero =>
    intro y hy
    have e : y = 16 := by omega
    subst e
    exact br_t (nI_le (a := 16) (by omega) (by decide)) hp
  | succ d ih =>
    intro y hy
    exact br_f (ic_n16 (by omega)) ⟨y + 1, ic_xin c p l h q post _ y _ (by omega) (ih (y + 1) (by omega)) y 0 (by omega)⟩
theorem ic_yout (c : Int32) (p : Nat → Int32) (l h : Nat → Int64) (g : Nat → Int32) (post : Int32 → Prop) (hp : post (nI (ic_S (fun c => if c / 16 < c % 16 then ic_f p l h (c / 16) (c % 16) else 0) 256))) :
    ∀ d i, i + d = 256 → wY_apartPairs_4 post c p l h g (d + 1) (nI (ic_S (fun c => if c / 16 < c % 16 then ic_f p l h (c / 16) (c % 16) else 0) i)) (nI i) := by
  intro d
  induction d with
  | zero =>
    intro i hi
    have e : i = 256 := by omega
    subst e
    exact br_t (nI_le (a := 256) (by omega) (by decide)) hp
  | succ d ih =>
    intro i hi
    have H := ih (i + 1) (by omega)
    have e1 : nI i / 16 = nI (i / 16) := pk_div (d := 16) (by omega) (by decide) (by decide)
    have e2 : nI i - nI i / 16 * 16 = nI (i % 16) := pk_rem (d := 16) (by omega) (by decide) (by decide)
    have stay : (if i / 16 < i % 16 then ic_f p l h (i / 16) (i % 16) else 0) = 0 → wY_apartPairs_4 post c p l h g (d + 1) (nI (ic_S (fun c => if c / 16 < c % 16 then ic_f p l h (c / 16) (c % 16) else 0) i)) (nI (i + 1)) := fun e => by
      have e2 : ic_S (fun c => if c / 16 < c % 16 then ic_f p l h (c / 16) (c % 16) else 0) (i + 1) = ic_S (fun c => if c / 16 < c % 16 then ic_f p l h (c / 16) (c % 16) else 0) i := by
        show ic_S (fun c => if c / 16 < c % 16 then ic_f p l h (c / 16) (c % 16) else 0) i + (if i / 16 < i % 16 then ic_f p l h (i / 16) (i % 16) else 0) = _
        omega
      rw [e2] at H
      exact H
    have h16 : ¬ (16 : Int32) = 0 := by decide
    refine br_f (nI_ge (b := 256) (by omega) (by decide)) ⟨h16, h16, pk_le (i % 16) (i / 16) (fun hle => nm_r (nI_1 i) (stay (if_neg (by omega)))) (fun hlt => ⟨h16, h16, ?_⟩) e2 e1 (by omega) (by omega)⟩
    rw [e2, e1]
    refine ic_ycp c p l h g (by omega) (by omega) _ ?_
    by_cases s : ic_cp p l h (i / 16) (i % 16) = 3
    · have e3 : ic_S (fun c => if c / 16 < c % 16 then ic_f p l h (c / 16) (c % 16) else 0) i + 1 = ic_S (fun c => if c / 16 < c % 16 then ic_f p l h (c / 16) (c % 16) else 0) (i + 1) := by
        show _ = ic_S (fun c => if c / 16 < c % 16 then ic_f p l h (c / 16) (c % 16) else 0) i + (if i / 16 < i % 16 then ic_f p l h (i / 16) (i % 16) else 0)
        rw [if_pos hlt, ic_f1 s]
      exact br_t s (nm_r ((nI_1 _).trans (congrArg nI e3)) (nm_r (nI_1 i) H))
    · exact br_f s (nm_r (nI_1 i) (stay (by rw [if_pos hlt, ic_f0 s])))
