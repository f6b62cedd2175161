/-! the calls that change something -/
theorem ic_10 : ¬ (1 : Int32) = 0 := by decide
theorem i_vc_split {k : Nat} {u : SX} {v : SY} (I : i_Rel k u v) (hk : k + 3 ≤ 1536) (v1 : Int32) : wpX_split (fun r u' => wpY_split (fun r' v' => r' = r ∧ i_Rel (k + 3) u' v') v v1) u v1 := by
  obtain ⟨c, p, l, h, q, g, rfl, rfl, H⟩ := I
  unfold wpX_split wpY_split
  dsimp only
  rcases ic_party c p l h q g v1 with ⟨hX, hY⟩ | ⟨j, hj, rfl, hpj, hX, hY⟩
  · exact hX _ (br_t rfl (hY _ (br_t rfl ⟨rfl, ic_mk H⟩)))
  · have cj : (nI j).toNatClampNeg = j := ic_cl (by omega)
    obtain ⟨s, hs, hps, fX, fY⟩ := ic_free c p l h q g 8 0 rfl
    have eq := H.1 j hj hpj
    have hn := ic_pop_le (g j)
    rw [cj]
    refine hX _ (br_f ic_10 ⟨9, fX _ ?_⟩)
    rcases Nat.lt_or_ge s 8 with s8 | s8
    · have ns : ¬ nI s = 8 := fun e => absurd ((nI_eq (b := 8) (by omega) (by decide)).mp e) (by omega)
      have hjs : j ≠ s := fun e => hpj (by rw [e]; exact hps s8)
      by_cases q1 : q j = 1
      · refine br_f ns ⟨ic_in8 hj, br_t q1 (hY _ (br_f ic_10 ⟨ic_in8 hj, ic_cnt c p l h g _ _ ⟨9, fY _ _ _ (br_f ns (br_t ?_ ⟨rfl, ic_mk H⟩))⟩⟩))⟩
        rw [← eq]; exact q1
      · have q1' : ¬ nI (ic_pop (g j)) = 1 := by rw [← eq]; exact q1
        have cs : (nI s).toNatClampNeg = s := ic_cl (by omega)
        have h2 : ¬ (2 : Int32) = 0 := by decide
        have e4 : nI (ic_pop (g j)) - nI (ic_pop (g j)) / 2 = nI (ic_pop (g j) - ic_pop (g j) / 2) - nI (ic_S (ic_b (g j)) 0) := by
          have e5 : nI (ic_pop (g j)) / 2 = nI (ic_pop (g j) / 2) := pk_div (d := 2) (by omega) (by decide) (by decide)
          rw [e5, pk_sub (by omega)]
          show _ = _ - nI 0
          rw [nI_0, Int32.sub_zero]
        rw [cs]
        refine br_f ns ⟨ic_in8 hj, br_f q1 ⟨ic_in8 hj, h2, nm_e ⟨ic_in8 hj, ic_in8 hj, nm_e ⟨ic_in8 s8, nm_e ⟨ic_in16 (by omega), nm_e (ic_xcopy c _ l h _ (by omega) (by omega) _ ?_)⟩⟩⟩⟩⟩
        refine hY _ (br_f ic_10 ⟨ic_in8 hj, ic_cnt c p l h g _ _ ⟨9, fY _ _ _ ?_⟩⟩)
        unfold wY_split_44
        rw [cj, cs]
        refine br_f ns (br_f q1' ⟨ic_in16 (by omega), nm_e ⟨ic_in16 (by omega), ic_in16 (by omega), nm_e ⟨ic_in16 (by omega), ic_in16 (by omega), nm_e ⟨ic_in8 s8, nm_e ⟨h2, nm_r e4 ⟨33, ?_⟩⟩⟩⟩⟩⟩)
        exact ic_deal _ c _ _ _ g (g j) j s _ hj s8 hjs (by omega) (fun G IG => ⟨rfl, ic_mk (ic_C_split hj hjs H hpj IG _)⟩) 32 0 _ rfl (ic_inv_0 hjs)
    · have e8 : s = 8 := by omega
      subst e8
      exact br_t rfl (hY _ (br_f ic_10 ⟨ic_in8 hj, ic_cnt c p l h g _ _ ⟨9, fY _ _ _ (br_t rfl ⟨rfl, ic_mk H⟩)⟩⟩))
theorem i_vc_join {k : Nat} {u : SX} {v : SY} (I : i_Rel k u v) (hk : k + 3 ≤ 1536) (v1 : Int32) (v2 : Int32) : wpX_join (fun r u' => wpY_join (fun r' v' => r' = r ∧ i_Rel (k + 3) u' v') v v1 v2) u v1 v2 := by
  obtain ⟨c, p, l, h, q, g, rfl, rfl, H⟩ := I
  unfold wpX_join wpY_join
  dsimp only
  by_cases e : v1 = v2
  · exact br_t e (br_t e ⟨rfl, ic_mk H⟩)
  · refine br_f e ?_
    rcases ic_party c p l h q g v1 with ⟨hX, hY⟩ | ⟨a, ha, rfl, hpa, hX, hY⟩
    · exact hX _ (br_t rfl (br_f e (hY _ (br_t rfl ⟨rfl, ic_mk H⟩))))
    · rcases ic_party c p l h q g v2 with ⟨kX, kY⟩ | ⟨b, hb, rfl, hpb, kX, kY⟩
      · exact hX _ (br_f ic_10 (kX _ (br_t rfl (br_f e (hY _ (br_f ic_10 (kY _ (br_t rfl ⟨rfl, ic_mk H⟩))))))))
      · have hab : a ≠ b := fun z => e (by rw [z])
        have ca : (nI a).toNatClampNeg = a := ic_cl (by omega)
        have cb : (nI b).toNatClampNeg = b := ic_cl (by omega)
        have ia : vp_in (nI a) 16 := ic_in16 (by omega)
        have ib : vp_in (nI b) 16 := ic_in16 (by omega)
        rw [ca, cb]
        refine hX _ (br_f ic_10 (kX _ (br_f ic_10 (ic_xlearn c p l h q (by omega) (by omega) _ ?_))))
        refine ⟨ic_in8 ha, ic_in8 hb, ic_in8 ha, nm_e ⟨ib, nm_e ⟨ic_in8 ha, br_f e (hY _ (br_f ic_10 (kY _ (br_f ic_10 ⟨ia, ib, ia, nm_e ⟨ia, ib, ia, nm_e ⟨ic_in8 ha, ic_in8 hb, ic_in8 ha, nm_e ⟨ib, nm_e ⟨ic_in8 ha, ic_cnt c _ _ _ _ _ _ ⟨?_, ic_mk (ic_C_join ha hb hab hpa hpb H)⟩⟩⟩⟩⟩⟩))))⟩⟩⟩
        rw [pk_us, pk_us]
        exact (ic_pop_join ha hb hab hpa hpb H).symm
theorem i_vc_event {k : Nat} {u : SX} {v : SY} (I : i_Rel k u v) (hk : k + 3 ≤ 1536) (v1 : Int32) : wpX_event (fun r u' => wpY_event (fun r' v' => r' = r ∧ i_Rel (k + 3) u' v') v v1) u v1 := by
  obtain ⟨c, p, l, h, q, g, rfl, rfl, H⟩ := I
  unfold wpX_event wpY_event
  dsimp only
  rcases ic_party c p l h q g v1 with ⟨hX, hY⟩ | ⟨a, ha, rfl, hpa, hX, hY⟩
  · exact hX _ (br_t rfl (hY _ (br_t rfl ⟨rfl, ic_mk H⟩)))
  · have ia : vp_in (nI a) 16 := ic_in16 (by omega)
    refine hX _ (br_f ic_10 ?_)
    by_cases e1 : c < 100
    · refine br_t e1 ?_
      by_cases e2 : (64 : Int32) ≤ c
      · exact br_t e2 ⟨ia, ia, nm_e (nm_e (hY _ (br_f ic_10 (br_t e1 (br_t e2 ⟨ia, ia, nm_e (nm_e ⟨rfl, ic_mk H⟩)⟩)))))⟩
      · exact br_f e2 ⟨ia, ia, nm_e (nm_e (hY _ (br_f ic_10 (br_t e1 (br_f e2 ⟨ia, ia, nm_e (nm_e ⟨rfl, ic_mk H⟩)⟩)))))⟩
    · exact br_f e1 (hY _ (br_f ic_10 (br_f e1 ⟨rfl, ic_mk H⟩)))
theorem i_vc_tell {k : Nat} {u : SX} {v : SY} (I : i_Rel k u v) (hk : k + 3 ≤ 1536) (v1 : Int32) (v2 : Int32) : wpX_tell (fun r u' => wpY_tell (fun r' v' => r' = r ∧ i_Rel (k + 3) u' v') v v1 v2) u v1 v2 := by
  obtain ⟨c, p, l, h, q, g, rfl, rfl, H⟩ := I
  unfold wpX_tell wpY_tell
  dsimp only
  by_cases e : v1 = v2
  · exact br_t e (br_t e ⟨rfl, ic_mk H⟩)
  · refine br_f e ?_
    rcases ic_there c p l h q g v1 with ⟨hX, hY⟩ | ⟨a, ha, rfl, hpa, hX, hY⟩
    · exact hX _ (br_t rfl (br_f e (hY _ (br_t rfl ⟨rfl, ic_mk H⟩))))
    · rcases ic_party c p l h q g v2 with ⟨kX, kY⟩ | ⟨b, hb, rfl, hpb, kX, kY⟩
      · exact hX _ (br_f ic_10 (kX _ (br_t rfl (br_f e (hY _ (br_f ic_10 (kY _ (br_t rfl ⟨rfl, ic_mk H⟩))))))))
      · have ca : (nI a).toNatClampNeg = a := ic_cl ha
        have cb : (nI b).toNatClampNeg = b := ic_cl (by omega)
        have ia : vp_in (nI a) 16 := ic_in16 ha
        have hb16 : b < 16 := by omega
        have ib : vp_in (nI b) 16 := ic_in16 hb16
        rw [ca, cb]
        refine hX _ (br_f ic_10 (kX _ (br_f ic_10 (ic_xB c p l h q ha hb16 _ ?_))))
        by_cases B : ic_B l h a b = 0
        · exact br_t B (ic_xlearn c p l h q ha hb16 _ (br_f e (hY _ (br_f ic_10 (kY _ (br_f ic_10 (ic_yB c p l h g ha hb16 _ ⟨ib, ia, ib, nm_e ⟨ib, ia, ib, nm_e (br_t B ⟨rfl, ic_mk H⟩)⟩⟩)))))))
        · obtain ⟨B1, B2⟩ := ic_B1 B
          exact br_f B (br_f e (hY _ (br_f ic_10 (kY _ (br_f ic_10 (ic_yB c p l h g ha hb16 _ ⟨ib, ia, ib, nm_r (ic_updL_same l b (ic_known B1)) ⟨ib, ia, ib, nm_r (ic_updL_same h b (ic_known B2)) (br_f B ⟨rfl, ic_mk H⟩)⟩⟩))))))
theorem i_vc_note {k : Nat} {u : SX} {v : SY} (I : i_Rel k u v) (hk : k + 3 ≤ 1536) (v1 : Int32) (v2 : Int32) : wpX_note (fun r u' => wpY_note (fun r' v' => r' = r ∧ i_Rel (k + 3) u' v') v v1 v2) u v1 v2 := by
  obtain ⟨c, p, l, h, q, g, rfl, rfl, H⟩ := I
  unfold wpX_note wpY_note wpX_isNoteNumber
  dsimp only
  rcases ic_party c p l h q g v1 with ⟨hX, hY⟩ | ⟨a, ha, rfl, hpa, hX, hY⟩
  · exact hX _ (br_t rfl (hY _ (br_t rfl ⟨rfl, ic_mk H⟩)))
  · refine hX _ (br_f ic_10 ?_)
    rcases pk_ix v2 (n := 8) (by decide) with hx | hx | ⟨n, hn, rfl⟩
    · exact br_t hx (br_t rfl (hY _ (br_f ic_10 (br_t hx ⟨rfl, ic_mk H⟩))))
    · exact br_f (ic_g0 hx) (br_t hx (br_t rfl (hY _ (br_f ic_10 (br_f (ic_g0 hx) (br_f (Int32.not_le.mpr (ic_g7 hx)) ⟨rfl, ic_mk H⟩))))))
    · have h0 := ic_n0 (j := n) (by omega)
      have h7 : nI n ≤ 7 := nI_le (b := 7) (by omega) (by decide)
      have hn16 : 8 + n < 16 := by omega
      have ca : (nI a).toNatClampNeg = a := ic_cl (by omega)
      have cn : (nI (8 + n)).toNatClampNeg = 8 + n := ic_cl hn16
      have ia : vp_in (nI a) 16 := ic_in16 (by omega)
      have i8 : vp_in (nI (8 + n)) 16 := ic_in16 hn16
      rw [ic_8n, ca, cn]
      refine br_f h0 (br_f (ic_n8 hn) (br_f ic_10 ⟨i8, nm_e (ic_xcopy c _ l h q (by omega) hn16 _ ?_)⟩))
      exact hY _ (br_f ic_10 (br_f h0 (br_t h7 ⟨i8, nm_e ⟨ia, i8, nm_e ⟨ia, i8, nm_e ⟨rfl, ic_mk (ic_C_p H (fun i hi => pk_un (by omega)))⟩⟩⟩⟩)))
theorem i_vc_erase {k : Nat} {u : SX} {v : SY} (I : i_Rel k u v) (hk : k + 3 ≤ 1536) (v1 : Int32) : wpX_erase (fun r u' => wpY_erase (fun r' v' => r' = r ∧ i_Rel (k + 3) u' v') v v1) u v1 := by
  obtain ⟨c, p, l, h, q, g, rfl, rfl, H⟩ := I
  unfold wpX_erase wpY_erase
  dsimp only
  rcases pk_ix v1 (n := 8) (by decide) with hx | hx | ⟨n, hn, rfl⟩
  · exact ic_xwn c p l h q (Or.inl hx) _ (br_t rfl (br_t hx ⟨rfl, ic_mk H⟩))
  · exact ic_xwn c p l h q (Or.inr hx) _ (br_t rfl (br_f (ic_g0 hx) (br_t (ic_g7 hx) ⟨rfl, ic_mk H⟩)))
  · have h0 := ic_n0 (j := n) (by omega)
    have hn16 : 8 + n < 16 := by omega
    have cn : (nI (8 + n)).toNatClampNeg = 8 + n := ic_cl hn16
    have i8 : vp_in (nI (8 + n)) 16 := ic_in16 hn16
    rw [ic_8n, cn]
    refine ic_xw c p l h q hn _ (fun z => ?_) (fun z => ?_)
    · exact br_t rfl (br_f h0 (br_f (ic_n7 hn) ⟨i8, br_t z ⟨rfl, ic_mk H⟩⟩))
    · exact br_f ic_10 ⟨i8, nm_e (br_f h0 (br_f (ic_n7 hn) ⟨i8, br_f z ⟨i8, nm_e ⟨rfl, ic_mk (ic_C_p H (fun i hi => pk_un (by omega)))⟩⟩⟩))⟩
