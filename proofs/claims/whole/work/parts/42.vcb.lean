theorem iv_sv {p : qp_T} {s n r : Nat} (hs : s < 4) : upd (qp_SV p) (nI s).toNatClampNeg (nI n) = qp_SV (qp_wst p s n r) := by
  rw [nI_clamp (by omega)]; exact qp_upd (qp_sv p) s n
theorem iv_ru {p : qp_T} {s n r : Nat} (hs : s < 4) : upd (qp_RU p) (nI s).toNatClampNeg (nI r) = qp_RU (qp_wst p s n r) := by
  rw [nI_clamp (by omega)]; exact qp_upd (qp_ru p) s r
theorem i_vc_station {k : Nat} {u : SX} {v : SY} (I : i_Rel k u v) (hk : k + 4 ≤ 2048) (v1 : Int32) (v2 : Int32) (v3 : Int32) : wpX_station (fun r u' => wpY_station (fun r' v' => r' = r ∧ i_Rel (k + 4) u' v') v v1 v2 v3) u v1 v2 v3 := by
  obtain ⟨p, ok, ⟨_, _, _, _, _, _, _, _, _, _, _, _, _, rfl⟩, jT, bG, lV, nW, Rs, rfl⟩ := I
  unfold wpX_station wpY_station
  dsimp only
  by_cases a : ix_v v1 4
  · obtain ⟨s, hs, rfl⟩ := a
    have w : vp_in (nI s) 4 := vp_in_nI hs (by omega)
    refine xb_st_t hs (br_f (by decide) ?_)
    by_cases c1 : v2 < 1
    · exact br_t c1 (yb_st_t hs (br_f (by decide) (br_t c1 ⟨rfl, ir_i ok xs_i Rs⟩)))
    · by_cases c2 : 3 < v2
      · exact br_f c1 (br_t c2 (yb_st_t hs (br_f (by decide) (br_f c1 (br_t c2 ⟨rfl, ir_i ok xs_i Rs⟩)))))
      · by_cases c3 : v3 < 0
        · exact br_f c1 (br_f c2 (br_t c3 (yb_st_t hs (br_f (by decide) (br_f c1 (br_f c2 (br_t c3 ⟨rfl, ir_i ok xs_i Rs⟩)))))))
        · by_cases c4 : v3 < 3
          · obtain ⟨n, n1, n3, rfl⟩ := iv_n (a := 1) (b := 3) c1 c2 (by omega) (by omega)
            have c5 : v3 ≤ 2 := by
              rcases pk_ix v3 (n := 3) (by omega) with h | h | ⟨j, hj, rfl⟩
              · exact absurd h c3
              · exact absurd c4 (Int32.not_lt.mpr h)
              · exact nI_le (b := 2) (by omega) (by omega)
            obtain ⟨r, r2, rfl⟩ := nI_of2 (M := 2) (n := 2) rfl c3 c5
            have ok' := qp_ok_wst (s := s) ok n1 n3 r2
            refine br_f c1 (br_f c2 (br_f c3 (br_t c4 ⟨w, nm_r (iv_sv (n := n) (r := r) hs) ⟨w, nm_r (iv_ru (n := n) (r := r) hs) ?_⟩⟩)))
            refine yb_st_t hs (br_f (by decide) (br_f c1 (br_f c2 (br_f c3 (br_t c5 ⟨w, nm_r (iv_sv (n := n) (r := r) hs) ⟨w, nm_r (iv_ru (n := n) (r := r) hs) ?_⟩⟩)))))
            exact yl_pl (p := qp_wst p s n r) ok' (fun nw jt bg lv Rs' => ⟨rfl, ir_i ok' ⟨_, _, _, _, _, _, _, _, _, _, _, _, _, rfl⟩ Rs'⟩)
          · have c5 : ¬ v3 ≤ 2 := fun z => c4 (Int32.lt_of_le_of_lt z (by decide))
            exact br_f c1 (br_f c2 (br_f c3 (br_f c4 (yb_st_t hs (br_f (by decide) (br_f c1 (br_f c2 (br_f c3 (br_f c5 ⟨rfl, ir_i ok xs_i Rs⟩)))))))))
  · exact xb_st_f a (br_t rfl (yb_st_f a (br_t rfl ⟨rfl, ir_i ok xs_i Rs⟩)))
theorem iv_ar {p : qp_T} {t : Nat} (hm : qp_m p < 12) : upd (qp_AR p) (nI (qp_m p)).toNatClampNeg (nI t) = qp_AR (qp_war p t) := by
  rw [nI_clamp (by omega)]; exact qp_upd (qp_ar p) (qp_m p) t
theorem iv_vc {p : qp_T} {t : Nat} (hm : qp_m p < 12) : upd (qp_VC p) (nI (qp_m p)).toNatClampNeg 0 = qp_VC (qp_war p t) := by
  rw [nI_clamp (by omega)]; exact qp_upd (qp_vc p) (qp_m p) 0
theorem i_vc_arrive {k : Nat} {u : SX} {v : SY} (I : i_Rel k u v) (hk : k + 4 ≤ 2048) (v1 : Int32) : wpX_arrive (fun r u' => wpY_arrive (fun r' v' => r' = r ∧ i_Rel (k + 4) u' v') v v1) u v1 := by
  obtain ⟨p, ok, ⟨_, _, _, _, _, _, _, _, _, _, _, _, _, rfl⟩, jT, bG, lV, nW, Rs, rfl⟩ := I
  have hm := ok.1
  unfold wpX_arrive wpY_arrive
  dsimp only
  by_cases c1 : v1 < 0
  · exact br_t c1 (br_t c1 ⟨rfl, ir_i ok xs_i Rs⟩)
  · by_cases c2 : v1 ≤ 100
    · obtain ⟨t, ht, rfl⟩ := nI_of2 (M := 100) (n := 100) rfl c1 c2
      by_cases c3 : qp_m p = 12
      · have c4 : ¬ nI (qp_m p) < 12 := nI_nlt (b := 12) (by omega) (by omega)
        exact br_f c1 (br_t c2 (br_t (by rw [c3]; rfl) (br_f c1 (br_t c2 (br_f c4 ⟨rfl, ir_i ok xs_i Rs⟩)))))
      · have c4 : nI (qp_m p) < 12 := nI_lt (b := 12) (by omega) (by decide)
        have c5 : ¬ nI (qp_m p) = 12 := fun z => c3 ((nI_eq (b := 12) (by omega) (by decide)).mp z)
        have w : vp_in (nI (qp_m p)) 12 := vp_in_nI (by omega) (by omega)
        have ok' := qp_ok_war (t := t) ok (by omega) ht
        refine br_f c1 (br_t c2 (br_f c5 ⟨w, nm_r (iv_ar (t := t) (by omega)) ⟨w, nm_r (iv_vc (t := t) (by omega)) (nm_r (nI_1 _) ?_)⟩⟩))
        refine br_f c1 (br_t c2 (br_t c4 ⟨w, nm_r (iv_ar (t := t) (by omega)) ⟨w, nm_r (iv_vc (t := t) (by omega)) (nm_r (nI_1 _) ?_)⟩⟩))
        exact yl_pl (p := qp_war p t) ok' (fun nw jt bg lv Rs' => ⟨nI_pred (qp_m p), ir_i ok' ⟨_, _, _, _, _, _, _, _, _, _, _, _, _, rfl⟩ Rs'⟩)
    · exact br_f c1 (br_f c2 (br_f c1 (br_f c2 ⟨rfl, ir_i ok xs_i Rs⟩)))
theorem i_vc_drop {k : Nat} {u : SX} {v : SY} (I : i_Rel k u v) (hk : k + 4 ≤ 2048) : wpX_drop (fun r u' => wpY_drop (fun r' v' => r' = r ∧ i_Rel (k + 4) u' v') v) u := by
  obtain ⟨p, ok, ⟨_, _, _, _, _, _, _, _, _, _, _, _, _, rfl⟩, jT, bG, lV, nW, Rs, rfl⟩ := I
  have hm := ok.1
  unfold wpX_drop wpY_drop
  dsimp only
  by_cases c : qp_m p = 0
  · have c1 : nI (qp_m p) = 0 := by rw [c]; rfl
    exact br_t c1 (br_t c1 ⟨rfl, ir_i ok xs_i Rs⟩)
  · have c1 : ¬ nI (qp_m p) = 0 := nI_ne0 (by omega) (by omega)
    have e : nI (qp_m p) - 1 = nI (qp_m (qp_wdr p)) := by
      show nI (qp_m p) - 1 = nI (qp_m p - 1)
      obtain ⟨n, hn⟩ : ∃ n, qp_m p = n + 1 := ⟨qp_m p - 1, by omega⟩
      rw [hn]
      exact nI_pred n
    have ok' := qp_ok_wdr ok
    refine br_f c1 (nm_r e (br_f c1 (nm_r e ?_)))
    exact yl_pl (p := qp_wdr p) ok' (fun nw jt bg lv Rs' => ⟨rfl, ir_i ok' ⟨_, _, _, _, _, _, _, _, _, _, _, _, _, rfl⟩ Rs'⟩)
