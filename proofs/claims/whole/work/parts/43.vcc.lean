theorem i_vc_visit {k : Nat} {u : SX} {v : SY} (I : i_Rel k u v) (hk : k + 4 ≤ 2048) (v1 : Int32) (v2 : Int32) (v3 : Int32) : wpX_visit (fun r u' => wpY_visit (fun r' v' => r' = r ∧ i_Rel (k + 4) u' v') v v1 v2 v3) u v1 v2 v3 := by
  obtain ⟨p, ok, ⟨_, _, _, _, _, _, _, _, _, _, _, _, _, rfl⟩, jT, bG, lV, nW, Rs, rfl⟩ := I
  have hm := ok.1
  unfold wpX_visit wpY_visit
  dsimp only
  by_cases a : ix_v v1 (qp_m p)
  · obtain ⟨c, hc, rfl⟩ := a
    have hv := (ok.2.2 c hc).2.1
    have w : vp_in (nI c) 12 := vp_in_nI (by omega) (by omega)
    have ec : (nI c).toNatClampNeg = c := nI_clamp (by omega)
    refine xb_cu_t hm hc (br_f (by decide) ?_)
    by_cases b : ix_v v2 4
    · obtain ⟨s, hs, rfl⟩ := b
      refine xb_st_t hs (br_f (by decide) ?_)
      by_cases c1 : v3 < 1
      · exact br_t c1 (yb_cu_t hm hc (br_f (by decide) (yb_st_t hs (br_f (by decide) (br_t c1 ⟨rfl, ir_i ok xs_i Rs⟩)))))
      · by_cases c2 : v3 ≤ 30
        · obtain ⟨n, n1, n3, rfl⟩ := iv_n (a := 1) (b := 30) c1 (Int32.not_lt.mpr c2) (by omega) (by omega)
          rw [ec, qp_VCe]
          by_cases c3 : qp_vc p c = 4
          · have c4 : ¬ nI (qp_vc p c) < 4 := nI_nlt (b := 4) (by omega) (by omega)
            exact br_f c1 (br_t c2 ⟨w, br_t (by rw [c3]; rfl) (yb_cu_t hm hc (br_f (by decide) (yb_st_t hs (br_f (by decide) (br_f c1 (br_t c2 ⟨w, br_f c4 ⟨rfl, ir_i ok xs_i Rs⟩⟩))))))⟩)
          · have c4 : nI (qp_vc p c) < 4 := nI_lt (b := 4) (by omega) (by decide)
            have c5 : ¬ nI (qp_vc p c) = 4 := fun z => c3 ((nI_eq (b := 4) (by omega) (by decide)).mp z)
            have w4 : vp_in (nI (4 * c + qp_vc p c)) 48 := vp_in_nI (by omega) (by omega)
            have e4 : (nI (4 * c + qp_vc p c)).toNatClampNeg = 4 * c + qp_vc p c := nI_clamp (by omega)
            have ok' := qp_ok_wvi (s := s) (n := n) ok hc (by omega) hs n1 n3
            have es : upd (qp_VS p) (4 * c + qp_vc p c) (nI s) = qp_VS (qp_wvi p c s n) := qp_upd (qp_vs p) _ s
            have en : upd (qp_VN p) (4 * c + qp_vc p c) (nI n) = qp_VN (qp_wvi p c s n) := qp_upd (qp_vn p) _ n
            have ev : upd (qp_VC p) c (nI (qp_vc p c) + 1) = qp_VC (qp_wvi p c s n) := by rw [nI_1]; exact qp_upd (qp_vc p) c _
            have er : qp_VC (qp_wvi p c s n) c = nI (qp_vc p c + 1) := by
              show nI (qn_u (qp_vc p) c (qp_vc p c + 1) c) = _
              rw [qn_us]
            refine br_f c1 (br_t c2 ⟨w, br_f c5 ⟨w, xl_vi ⟨w4, nm_r (e' := qp_VS (qp_wvi p c s n)) (by rw [e4]; exact es) ⟨w4, nm_r (e' := qp_VN (qp_wvi p c s n)) (by rw [e4]; exact en) ⟨w, w, nm_r ev ⟨w, ?_⟩⟩⟩⟩⟩⟩)
            refine yb_cu_t hm hc (br_f (by decide) (yb_st_t hs (br_f (by decide) (br_f c1 (br_t c2 ⟨w, br_t c4 ⟨w, ?_⟩⟩)))))
            rw [yl_c4, e4]
            refine ⟨w4, nm_r es ⟨w, w4, nm_r en ⟨w, w, nm_r ev ?_⟩⟩⟩
            exact yl_pl (p := qp_wvi p c s n) ok' (fun nw jt bg lv Rs' => ⟨w, rfl, ir_i ok' ⟨_, _, _, _, _, _, _, _, _, _, _, _, _, rfl⟩ Rs'⟩)
        · exact br_f c1 (br_f c2 (yb_cu_t hm hc (br_f (by decide) (yb_st_t hs (br_f (by decide) (br_f c1 (br_f c2 ⟨rfl, ir_i ok xs_i Rs⟩)))))))
    · exact xb_st_f b (br_t rfl (yb_cu_t hm hc (br_f (by decide) (yb_st_f b (br_t rfl ⟨rfl, ir_i ok xs_i Rs⟩)))))
  · exact xb_cu_f hm a (br_t rfl (yb_cu_f hm a (br_t rfl ⟨rfl, ir_i ok xs_i Rs⟩)))
