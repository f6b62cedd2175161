/-! what the changing calls keep -/
theorem ic_C_p {p p' q g : Nat → Int32} (H : ic_C p q g) (e : ∀ i, i < 8 → p' i = p i) : ic_C p' q g :=
  ⟨fun i hi hp => H.1 i hi (by rw [← e i hi]; exact hp), fun i j hi hj hij hpi hpj => H.2 i j hi hj hij (by rw [← e i hi]; exact hpi) (by rw [← e j hj]; exact hpj)⟩
theorem ic_C_split {p q g G : Nat → Int32} {j s : Nat} (hj : j < 8) (hjs : j ≠ s) (H : ic_C p q g) (hpj : p j ≠ 0) (I : ic_Inv g (g j) j s (ic_pop (g j) - ic_pop (g j) / 2) 32 G) (x : Int32) :
    ic_C (upd p s x) (upd (upd q j (q j - q j / 2)) s (q j / 2)) G := by
  obtain ⟨h1, h2, h3, _, h5, h6⟩ := I
  have hn := ic_pop_le (g j)
  have p5 : ic_pop (G j) + ic_pop (G s) = ic_pop (g j) := h5
  have p6 : ic_pop (G j) = min (ic_pop (g j) - ic_pop (g j) / 2) (ic_pop (g j)) := h6
  have eq := H.1 j hj hpj
  have ed : q j / 2 = nI (ic_pop (g j) / 2) := by
    rw [eq]; exact pk_div (d := 2) (by omega) (by decide) (by decide)
  have es : q j - q j / 2 = nI (ic_pop (g j) - ic_pop (g j) / 2) := by
    rw [ed, eq]; exact pk_sub (by omega)
  refine ⟨fun i hi hp => ?_, fun i t hi ht hit hpi hpt b hb => ?_⟩
  · by_cases e1 : i = s
    · subst e1
      rw [pk_us, ed]
      exact congrArg nI (by omega)
    · rw [pk_un e1] at hp
      rw [pk_un e1]
      by_cases e2 : i = j
      · subst e2
        rw [pk_us, es]
        exact congrArg nI (by omega)
      · rw [pk_un e2, h1 i e2 e1]
        exact H.1 i hi hp
  · by_cases e1 : i = s
    · subst e1
      obtain ⟨a1, a2⟩ := h3 b hb
      rw [pk_un (Ne.symm hit)] at hpt
      by_cases e2 : t = j
      · rw [e2]; exact a2
      · rw [h1 t e2 (Ne.symm hit)]
        exact H.2 j t hj ht (Ne.symm e2) hpj hpt b a1
    · rw [pk_un e1] at hpi
      by_cases e2 : i = j
      · subst e2
        have a1 := h2 b hb
        by_cases e3 : t = s
        · cases hz : bt (G t) b
          · rfl
          · rw [e3] at hz
            rw [(h3 b hz).2] at hb
            exact absurd hb (by decide)
        · rw [pk_un e3] at hpt
          rw [h1 t (Ne.symm hit) e3]
          exact H.2 i t hi ht hit hpi hpt b a1
      · rw [h1 i e2 e1] at hb
        by_cases e3 : t = s
        · cases hz : bt (G t) b
          · rfl
          · rw [e3] at hz
            have a1 := (h3 b hz).1
            rw [H.2 i j hi hj e2 hpi hpj b hb] at a1
            exact absurd a1 (by decide)
        · rw [pk_un e3] at hpt
          by_cases e4 : t = j
          · cases hz : bt (G t) b
            · rfl
            · rw [e4] at hz
              have a1 := h2 b hz
              rw [H.2 i j hi hj e2 hpi hpj b hb] at a1
              exact absurd a1 (by decide)
          · rw [h1 t e4 e3]
            exact H.2 i t hi ht hit hpi hpt b hb
theorem ic_inv_0 {g : Nat → Int32} {j s R : Nat} (hjs : j ≠ s) : ic_Inv g (g j) j s R 0 (upd g s 0) := by
  refine ⟨fun t _ b => pk_un b, fun b hb => ?_, fun b hb => ?_, fun b _ _ => ?_, ?_, ?_⟩
  · rw [pk_un hjs] at hb; exact hb
  · rw [pk_us, b_0] at hb; exact absurd hb (by decide)
  · rw [pk_un hjs, pk_us]; exact ⟨rfl, b_0 b⟩
  · rfl
  · exact (Nat.min_zero R).symm
theorem ic_pop_join {p q g : Nat → Int32} {a b : Nat} (ha : a < 8) (hb : b < 8) (hab : a ≠ b) (hpa : p a ≠ 0) (hpb : p b ≠ 0) (H : ic_C p q g) : q a + q b = nI (ic_pop (g a ||| g b)) := by
  rw [ic_pop_or (H.2 a b ha hb hab hpa hpb), H.1 a ha hpa, H.1 b hb hpb, nI_add]
theorem ic_C_join {p q g : Nat → Int32} {a b : Nat} (ha : a < 8) (hb : b < 8) (hab : a ≠ b) (hpa : p a ≠ 0) (hpb : p b ≠ 0) (H : ic_C p q g) :
    ic_C (upd p b (vp_nar .boolean 0)) (upd q a (q a + q b)) (upd g a (g a ||| g b)) := by
  have hne : ∀ i, upd p b (vp_nar .boolean 0) i ≠ 0 → i ≠ b ∧ p i ≠ 0 := fun i hp => by
    by_cases e : i = b
    · rw [e, pk_us, ic_nb0] at hp; exact absurd rfl hp
    · rw [pk_un e] at hp; exact ⟨e, hp⟩
  refine ⟨fun i hi hp => ?_, fun i t hi ht hit hpi hpt c hc => ?_⟩
  · obtain ⟨_, hp'⟩ := hne i hp
    by_cases e : i = a
    · subst e
      rw [pk_us, pk_us]
      exact ic_pop_join hi hb hab hpa hpb H
    · rw [pk_un e, pk_un e]
      exact H.1 i hi hp'
  · obtain ⟨nb, hpi'⟩ := hne i hpi
    obtain ⟨nb2, hpt'⟩ := hne t hpt
    by_cases e : i = a
    · subst e
      rw [pk_us, b_or] at hc
      rw [pk_un (Ne.symm hit)]
      cases hz : bt (g i) c
      · rw [hz, Bool.false_or] at hc
        exact H.2 b t hb ht (Ne.symm nb2) hpb hpt' c hc
      · exact H.2 i t hi ht hit hpi' hpt' c hz
    · rw [pk_un e] at hc
      by_cases e2 : t = a
      · subst e2
        rw [pk_us, b_or, H.2 i t hi ht hit hpi' hpa c hc, H.2 i b hi hb nb hpi' hpb c hc]
        rfl
      · rw [pk_un e2]
        exact H.2 i t hi ht hit hpi' hpt' c hc
