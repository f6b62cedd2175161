/-! the calls that only ask -/
theorem i_vc_parties {k : Nat} {u : SX} {v : SY} (I : i_Rel k u v) (hk : k + 3 ≤ 1536) : wpX_parties (fun r => wpY_parties (fun r' => r' = r ∧ i_Rel (k + 3) u v) v) u := by
  obtain ⟨c, p, l, h, q, g, rfl, rfl, H⟩ := I
  obtain ⟨r, hX, hY⟩ := ic_slots c p l h q g 0 (by omega) 8 0 rfl 0
  exact ⟨9, hX _ ⟨9, hY _ ⟨rfl, ic_mk H⟩⟩⟩
theorem i_vc_notes {k : Nat} {u : SX} {v : SY} (I : i_Rel k u v) (hk : k + 3 ≤ 1536) : wpX_notes (fun r => wpY_notes (fun r' => r' = r ∧ i_Rel (k + 3) u v) v) u := by
  obtain ⟨c, p, l, h, q, g, rfl, rfl, H⟩ := I
  obtain ⟨r, hX, hY⟩ := ic_slots c p l h q g 8 (by omega) 8 0 rfl 0
  exact ⟨9, hX _ ⟨9, hY _ ⟨rfl, ic_mk H⟩⟩⟩
theorem i_vc_events {k : Nat} {u : SX} {v : SY} (I : i_Rel k u v) (hk : k + 3 ≤ 1536) : wpX_events (fun r => wpY_events (fun r' => r' = r ∧ i_Rel (k + 3) u v) v) u := by
  obtain ⟨c, p, l, h, q, g, rfl, rfl, H⟩ := I
  exact ⟨rfl, ic_mk H⟩
theorem i_vc_cells {k : Nat} {u : SX} {v : SY} (I : i_Rel k u v) (hk : k + 3 ≤ 1536) (v1 : Int32) : wpX_cells (fun r => wpY_cells (fun r' => r' = r ∧ i_Rel (k + 3) u v) v v1) u v1 := by
  obtain ⟨c, p, l, h, q, g, rfl, rfl, H⟩ := I
  unfold wpX_cells wpY_cells
  dsimp only
  rcases ic_party c p l h q g v1 with ⟨hX, hY⟩ | ⟨j, hj, rfl, hpj, hX, hY⟩
  · exact hX _ (br_t rfl (hY _ (br_t rfl ⟨rfl, ic_mk H⟩)))
  · rw [ic_cl (j := j) (by omega)]
    exact hX _ (br_f ic_10 ⟨ic_in8 hj, hY _ (br_f ic_10 ⟨ic_in8 hj, ic_cnt c p l h g _ _ ⟨(H.1 j hj hpj).symm, ic_mk H⟩⟩)⟩)
theorem i_vc_compare {k : Nat} {u : SX} {v : SY} (I : i_Rel k u v) (hk : k + 3 ≤ 1536) (v1 : Int32) (v2 : Int32) : wpX_compare (fun r => wpY_compare (fun r' => r' = r ∧ i_Rel (k + 3) u v) v v1 v2) u v1 v2 := by
  obtain ⟨c, p, l, h, q, g, rfl, rfl, H⟩ := I
  unfold wpX_compare wpY_compare
  dsimp only
  rcases ic_there c p l h q g v1 with ⟨hX, hY⟩ | ⟨a, ha, rfl, hpa, hX, hY⟩
  · exact hX _ (br_t rfl (hY _ (br_t rfl ⟨rfl, ic_mk H⟩)))
  · rcases ic_there c p l h q g v2 with ⟨kX, kY⟩ | ⟨b, hb, rfl, hpb, kX, kY⟩
    · exact hX _ (br_f ic_10 (kX _ (br_t rfl (hY _ (br_f ic_10 (kY _ (br_t rfl ⟨rfl, ic_mk H⟩)))))))
    · exact hX _ (br_f ic_10 (kX _ (br_f ic_10 (ic_xst c p l h q ha hb _ (hY _ (br_f ic_10 (kY _ (br_f ic_10 (ic_yfol c p l h g ha hb _ ⟨rfl, ic_mk H⟩)))))))))
theorem i_vc_behind {k : Nat} {u : SX} {v : SY} (I : i_Rel k u v) (hk : k + 3 ≤ 1536) (v1 : Int32) : wpX_behind (fun r => wpY_behind (fun r' => r' = r ∧ i_Rel (k + 3) u v) v v1) u v1 := by
  obtain ⟨c, p, l, h, q, g, rfl, rfl, H⟩ := I
  unfold wpX_behind wpY_behind
  dsimp only
  rcases ic_there c p l h q g v1 with ⟨hX, hY⟩ | ⟨a, ha, rfl, hpa, hX, hY⟩
  · exact hX _ (br_t rfl ⟨1, br_f (by decide) (hY _ (br_t rfl ⟨rfl, ic_mk H⟩))⟩)
  · obtain ⟨r, bX, bY⟩ := ic_behind c p l h q g a ha hpa 16 0 rfl 0
    exact hX _ (br_f ic_10 ⟨17, bX _ ⟨17, bY _ ⟨rfl, ic_mk H⟩⟩⟩)
theorem i_vc_newest {k : Nat} {u : SX} {v : SY} (I : i_Rel k u v) (hk : k + 3 ≤ 1536) : wpX_newest (fun r => wpY_newest (fun r' => r' = r ∧ i_Rel (k + 3) u v) v) u := by
  obtain ⟨c, p, l, h, q, g, rfl, rfl, H⟩ := I
  obtain ⟨r, hX, hY⟩ := ic_newest c p l h q g 16 0 rfl 0
  exact ⟨17, hX _ ⟨17, hY _ ⟨rfl, ic_mk H⟩⟩⟩
theorem i_vc_everywhere {k : Nat} {u : SX} {v : SY} (I : i_Rel k u v) (hk : k + 3 ≤ 1536) (v1 : Int32) : wpX_everywhere (fun r => wpY_everywhere (fun r' => r' = r ∧ i_Rel (k + 3) u v) v v1) u v1 := by
  obtain ⟨c, p, l, h, q, g, rfl, rfl, H⟩ := I
  have n0 : ∀ (post : Int32 → Prop) (x : Int32), post 0 → ∃ n, wY_everywhere_30 post x c p l h g n 0 0 := fun post x hp => ⟨1, br_f (by decide) (br_t rfl ⟨rfl, hp⟩)⟩
  unfold wpX_everywhere wpY_everywhere
  dsimp only
  rcases pk_ix v1 (n := 8) (by decide) with hx | hx | ⟨n, hn, rfl⟩
  · exact ic_xwn c p l h q (Or.inl hx) _ (br_t rfl (br_t hx (n0 _ _ ⟨rfl, ic_mk H⟩)))
  · exact ic_xwn c p l h q (Or.inr hx) _ (br_t rfl (br_f (ic_g0 hx) (br_t (ic_g7 hx) (n0 _ _ ⟨rfl, ic_mk H⟩))))
  · have h0 := ic_n0 (j := n) (by omega)
    have hn16 : 8 + n < 16 := by omega
    have cn : (nI (8 + n)).toNatClampNeg = 8 + n := ic_cl hn16
    have i8 : vp_in (nI (8 + n)) 16 := ic_in16 hn16
    rw [ic_8n, cn]
    obtain ⟨r, eX, eY⟩ := ic_every c p l h q g n hn 8 0 rfl
    refine ic_xw c p l h q hn _ (fun z => ?_) (fun z => ?_)
    · exact br_t rfl (br_f h0 (br_f (ic_n7 hn) ⟨i8, br_t z (n0 _ _ ⟨rfl, ic_mk H⟩)⟩))
    · exact br_f ic_10 ⟨9, eX _ (br_f h0 (br_f (ic_n7 hn) ⟨i8, br_f z ⟨9, eY _ ⟨rfl, ic_mk H⟩⟩⟩))⟩
theorem i_vc_apartPairs {k : Nat} {u : SX} {v : SY} (I : i_Rel k u v) (hk : k + 3 ≤ 1536) : wpX_apartPairs (fun r => wpY_apartPairs (fun r' => r' = r ∧ i_Rel (k + 3) u v) v) u := by
  obtain ⟨c, p, l, h, q, g, rfl, rfl, H⟩ := I
  exact ⟨16, ic_xout c p l h q _ ⟨257, ic_yout c p l h g _ ⟨congrArg nI (ic_S_pairs _).symm, ic_mk H⟩ 256 0 rfl⟩ 15 1 rfl⟩
