section XT
variable {p : qp_T} {mm nw nc : Int32} {sC rU aR vC vS vN jT bG lV oJ oB oL cV wA fR eV cA : Nat → Int32}
theorem xl_ta_l {post : SX → Prop} {e t c0 : Nat} {S : qn_S} (ok : qp_ok p) (he : e < 4) (A : qn_A p t S) (h0 : qn_fi p t S c0 = true)
    (h : ∀ cv wa fr jt lv ev cal, qx_R p (qn_ev p t (qn_fi p t S) S) cv wa fr jt bG lv → qx_St e (qn_nh p (qn_ev p t (qn_fi p t S) S)) ev cal (qn_P p (qn_ev p t (qn_fi p t S) S)) → post ((nI (qp_m p)), nI t, nI (qn_nh p (qn_ev p t (qn_fi p t S) S)), (qp_SV p), (qp_RU p), (qp_AR p), (qp_VC p), (qp_VS p), (qp_VN p), jt, bG, lv, oJ, oB, oL, cv, wa, fr, ev, cal)) :
    ∀ (d n i : Nat) (D : Nat → Bool) (cv wa fr jt lv ev cal : Nat → Int32), (∀ c, D c = true → qn_fi p t S c = true) → i + d = 12 → d < n → i + qn_nh p (qn_ev p t D S) ≤ 12 → qx_R p (qn_ev p t D S) cv wa fr jt bG lv → qx_St e (qn_nh p (qn_ev p t D S)) ev cal (qn_P p (qn_ev p t D S)) →
    wX_takeEventsOfNow_2 post (nI e) n (nI i) (nI (qp_m p)) (nI t) (nI (qn_nh p (qn_ev p t D S))) (qp_SV p) (qp_RU p) (qp_AR p) (qp_VC p) (qp_VS p) (qp_VN p) jt bG lv oJ oB oL cv wa fr ev cal := by
  have hm := ok.1
  have E : ∀ (D : Nat → Bool) (cv wa fr jt lv ev cal : Nat → Int32), (∀ c, D c = true → qn_fi p t S c = true) → (∀ c, c < qp_m p → qn_hs (qn_ev p t D S) c = true → qn_tm p (qn_ev p t D S) c ≠ t) → qx_R p (qn_ev p t D S) cv wa fr jt bG lv → qx_St e (qn_nh p (qn_ev p t D S)) ev cal (qn_P p (qn_ev p t D S)) → post ((nI (qp_m p)), nI t, nI (qn_nh p (qn_ev p t D S)), (qp_SV p), (qp_RU p), (qp_AR p), (qp_VC p), (qp_VS p), (qp_VN p), jt, bG, lv, oJ, oB, oL, cv, wa, fr, ev, cal) := by
    intro D cv wa fr jt lv ev cal hD hn R X
    have eD := qn_D_all hD hn
    subst eD
    exact h cv wa fr jt lv ev cal R X
  intro d
  induction d with
  | zero =>
    intro n i D cv wa fr jt lv ev cal hD h1 h2 h3 R X
    obtain ⟨n, rfl⟩ : ∃ m, n = m + 1 := ⟨n - 1, by omega⟩
    rw [wX_takeEventsOfNow_2]
    exact br_t (nI_le (a := 12) (by omega) (by omega)) (E D cv wa fr jt lv ev cal hD (fun c hc hh => absurd hh (qn_nh_no (by omega) c hc)) R X)
  | succ d ih =>
    intro n i D cv wa fr jt lv ev cal hD h1 h2 h3 R X
    obtain ⟨n, rfl⟩ : ∃ m, n = m + 1 := ⟨n - 1, by omega⟩
    rw [wX_takeEventsOfNow_2]
    refine br_f (nI_ge (b := 12) (by omega) (by decide)) ?_
    rcases Nat.eq_zero_or_pos (qn_nh p (qn_ev p t D S)) with z | z
    · exact br_t (by rw [z]; exact nI_le (a := 0) (b := 0) (by omega) (by omega)) (E D cv wa fr jt lv ev cal hD (fun c hc hh => absurd hh (qn_nh_no z c hc)) R X)
    · obtain ⟨q1, q2, q3, q4, q5⟩ := qn_mid ok A hD h0
      obtain ⟨c, hc, hh, hl⟩ := qn_first z
      have hP : qn_P p (qn_ev p t D S) (qn_num p (qn_ev p t D S) c) := ⟨c, hc, hh, rfl⟩
      have hx := qn_num_lt ok q3 hc hh
      have hd := qn_num_d (p := p) (S := qn_ev p t D S) (c := c) (by omega)
      have hr := qn_num_m (p := p) (S := qn_ev p t D S) (c := c) (by omega)
      have hw : t * 32 ≤ qn_num p (qn_ev p t D S) c := by have := q5 c hc hh; omega
      refine br_f (nI_nle (by omega) (by omega)) (xl_fi he z (by omega) hx X hP hl hw ⟨by decide, ?_⟩)
      rw [xl_r32 hx, hr, xl_d32 hx, hd]
      by_cases ht : qn_tm p (qn_ev p t D S) c = t
      · obtain ⟨hDc, hfi⟩ := qn_D_in hc hh ht
        have en := qn_nh_ev (t := t) hc hh
        have e1 := qn_ev_one (p := p) (t := t) (S := S) hDc
        have eP := qn_P_ev (t := t) (S := qn_ev p t D S) ok hc
        rw [en] at X
        rw [en]
        refine br_t (by rw [ht]) (xl_re he (by omega) hx X hP hl hw (fun ev' cal' X' => ⟨by decide, xl_ha ok q1 hc hh R (fun cv' wa' fr' jt' lv' R' => nm_r (nI_1 i) ?_)⟩))
        rw [← eP, e1] at X'
        rw [e1] at R'
        rw [e1]
        exact ih n (i + 1) _ cv' wa' fr' jt' lv' ev' cal' (qn_D_or hD hfi) (by omega) (by omega) (by rw [e1] at en; omega) R' X'
      · refine br_f (fun y => ht ((nI_eq (by have := qn_tm_le ok q3 hc hh; omega) (by omega)).mp y)) (E D cv wa fr jt lv ev cal hD (fun d' hd' hh' y => ?_) R X)
        have h4 := qn_num_tm (by omega) (by omega) (hl _ ⟨d', hd', hh', rfl⟩)
        have h5 := q5 c hc hh
        omega
theorem xl_ta {post : SX → Prop} {e t c0 : Nat} {S : qn_S} (ok : qp_ok p) (he : e < 4) (A : qn_A p t S) (h0 : qn_fi p t S c0 = true) (R : qx_R p S cV wA fR jT bG lV) (X : qx_St e (qn_nh p S) eV cA (qn_P p S))
    (h : ∀ cv wa fr jt lv ev cal, qx_R p (qn_ev p t (qn_fi p t S) S) cv wa fr jt bG lv → qx_St e (qn_nh p (qn_ev p t (qn_fi p t S) S)) ev cal (qn_P p (qn_ev p t (qn_fi p t S) S)) → post ((nI (qp_m p)), nI t, nI (qn_nh p (qn_ev p t (qn_fi p t S) S)), (qp_SV p), (qp_RU p), (qp_AR p), (qp_VC p), (qp_VS p), (qp_VN p), jt, bG, lv, oJ, oB, oL, cv, wa, fr, ev, cal)) : wpX_takeEventsOfNow post ((nI (qp_m p)), nI t, nI (qn_nh p S), (qp_SV p), (qp_RU p), (qp_AR p), (qp_VC p), (qp_VS p), (qp_VN p), jT, bG, lV, oJ, oB, oL, cV, wA, fR, eV, cA) (nI e) := by
  have hm := ok.1
  have e0 : qn_ev p t (fun _ => false) S = S := qn_ev_none (fun _ => rfl)
  have L := xl_ta_l (bG := bG) (oJ := oJ) (oB := oB) (oL := oL) ok he A h0 h 12 13 0 (fun _ => false) cV wA fR jT lV eV cA (fun c hc => absurd hc (by decide)) (by omega) (by omega)
  rw [e0] at L
  have := qn_nh_le (p := p) (S := S)
  exact ⟨13, L (by omega) R X⟩
theorem xl_fs_l {post : SX → Prop} {e t s : Nat} {F : qn_S} (ok : qp_ok p) (he : e < 4) (hs : s < 4)
    (h : ∀ wa fr bg ev cal, qx_R p F cV wa fr jT bg lV → qx_St e (qn_nh p F) ev cal (qn_P p F) → post ((nI (qp_m p)), nI t, nI (qn_nh p F), (qp_SV p), (qp_RU p), (qp_AR p), (qp_VC p), (qp_VS p), (qp_VN p), jT, bg, lV, oJ, oB, oL, cV, wa, fr, ev, cal)) :
    ∀ (d n i : Nat) (S : qn_S) (wa fr bg ev cal : Nat → Int32), i + d = 3 → d < n → qn_fl p t s d S = F → qn_Q p t (t + 1) S → qx_R p S cV wa fr jT bg lV → qx_St e (qn_nh p S) ev cal (qn_P p S) →
    wX_fillServers_2 post (nI e) (nI s) n (nI i) (nI (qp_m p)) (nI t) (nI (qn_nh p S)) (qp_SV p) (qp_RU p) (qp_AR p) (qp_VC p) (qp_VS p) (qp_VN p) jT bg lV oJ oB oL cV wa fr ev cal := by
  have hm := ok.1
  intro d
  induction d with
  | zero =>
    intro n i S wa fr bg ev cal h1 h2 h3 Q R X
    obtain ⟨n, rfl⟩ : ∃ m, n = m + 1 := ⟨n - 1, by omega⟩
    rw [wX_fillServers_2]
    have eF : S = F := h3
    subst eF
    exact br_t (nI_le (a := 3) (by omega) (by omega)) (h wa fr bg ev cal R X)
  | succ d ih =>
    intro n i S wa fr bg ev cal h1 h2 h3 Q R X
    obtain ⟨n, rfl⟩ : ∃ m, n = m + 1 := ⟨n - 1, by omega⟩
    rw [wX_fillServers_2]
    have es : (nI s).toNatClampNeg = s := nI_clamp (by omega)
    have ws : vp_in (nI s) 4 := vp_in_nI hs (by omega)
    obtain ⟨f, hf, hfe⟩ := R.2.2.1 s hs
    have hsv := (ok.2.1 s hs).2.1
    have q4 := Q.2.2.2.1
    refine br_f (nI_ge (b := 3) (by omega) (by decide)) ⟨ws, ?_⟩
    rw [es, hf]
    by_cases f0 : f = 0
    · have eF : S = F := by rw [← h3, qn_fl_b (fun z => by omega)]
      rw [eF] at R X ⊢
      exact br_t (by rw [f0]; exact nI_le (a := 0) (b := 0) (by omega) (by omega)) (h wa fr bg ev cal R X)
    · refine br_f (nI_nle (by omega) (by omega)) (xl_ne ok Q.1 (by omega) hs R ?_)
      cases e1 : qn_pk p S s (qp_m p) with
      | none =>
        have eF : S = F := by rw [← h3, qn_fl_b (fun _ => e1)]
        rw [eF] at R X ⊢
        exact br_t rfl (h wa fr bg ev cal R X)
      | some c =>
        obtain ⟨hc, hw⟩ := qn_pk_y e1
        rw [qn_wt_iff] at hw
        have hlt : qn_nsg p S s < qp_sv p s := by omega
        have hcu := qn_cu4 ok Q.1 hc (Or.inl hw.1)
        have hvn := ((ok.2.2 c hc).2.2 _ hcu.1).2.2
        have hvn' : qp_vn p (qn_v S c) ≤ 30 := hvn
        have hv48 : qn_v S c < 48 := by unfold qn_v; omega
        have ec : (nI c).toNatClampNeg = c := nI_clamp (by omega)
        have wc : vp_in (nI c) 12 := vp_in_nI (by omega) (by omega)
        have ev4 : (nI (qn_v S c)).toNatClampNeg = qn_v S c := nI_clamp (by omega)
        have w4 : vp_in (nI (qn_v S c)) 48 := vp_in_nI hv48 (by omega)
        have Q' := qn_Q_beg ok hs Q hlt e1
        obtain ⟨eP, hP⟩ := qn_P_beg (t := t) ok Q.1 hc hw.1
        have en := qn_nh_beg (t := t) hc hw.1
        have hle := qn_nh_le (p := p) (S := qn_beg t S c)
        have enum : (nI t + qp_VN p (nI (qn_v S c)).toNatClampNeg) * 32 + nI c = nI ((t + qp_vn p (qn_v S c)) * 32 + c) := by
          rw [ev4, qp_VNe, nI_add, show (32 : Int32) = nI 32 from rfl, pk_mul, nI_add]
        have hx : (t + qp_vn p (qn_v S c)) * 32 + c < 49312 := by
          have := qn_P_lt ok Q'.2.2.1 (x := (t + qp_vn p (qn_v S c)) * 32 + c) (by rw [eP]; exact Or.inr rfl)
          exact this
        have ef : ∀ g, fr s = nI (g + 1) → nI f - 1 = nI g := fun g hg => by rw [← hf, hg]; exact nI_pred g
        have R' := qx_R_beg (t := t) (x := nI f - 1) ok Q.1 hc hw.1 hw.2 R ef hlt
        refine br_f (qn_enc_n c (by omega)) ⟨wc, nm_r (e' := nI (qn_v S c)) (by show cV (nI c).toNatClampNeg = _; rw [ec, R.1 c hc]) ⟨wc, nm_r (e' := upd wa c (-1)) (by show upd wa (nI c).toNatClampNeg (-1) = _; rw [ec]) ⟨ws, ws, nm_r (e' := upd fr s (nI f - 1)) rfl ⟨w4, nm_r (e' := upd bg (qn_v S c) (nI t)) (by rw [ev4]) ⟨w4, ?_⟩⟩⟩⟩⟩
        show wpX_addEvent _ _ (nI e) ((nI t + qp_VN p (nI (qn_v S c)).toNatClampNeg) * 32 + nI c)
        rw [enum]
        refine xl_ad he (by omega) hx hP X (fun ev' cal' X' => nm_r (nI_1 i) ?_)
        rw [← eP, ← en] at X'
        rw [← en]
        exact ih n (i + 1) _ _ _ _ ev' cal' (by omega) (by omega) (by rw [← h3, qn_fl_s hlt e1]) Q' R' X'
theorem xl_fs {post : SX → Prop} {e t s : Nat} {S : qn_S} (ok : qp_ok p) (he : e < 4) (hs : s < 4) (Q : qn_Q p t (t + 1) S) (R : qx_R p S cV wA fR jT bG lV) (X : qx_St e (qn_nh p S) eV cA (qn_P p S))
    (h : ∀ wa fr bg ev cal, qx_R p (qn_fl p t s 3 S) cV wa fr jT bg lV → qx_St e (qn_nh p (qn_fl p t s 3 S)) ev cal (qn_P p (qn_fl p t s 3 S)) → post ((nI (qp_m p)), nI t, nI (qn_nh p (qn_fl p t s 3 S)), (qp_SV p), (qp_RU p), (qp_AR p), (qp_VC p), (qp_VS p), (qp_VN p), jT, bg, lV, oJ, oB, oL, cV, wa, fr, ev, cal)) : wpX_fillServers post ((nI (qp_m p)), nI t, nI (qn_nh p S), (qp_SV p), (qp_RU p), (qp_AR p), (qp_VC p), (qp_VS p), (qp_VN p), jT, bG, lV, oJ, oB, oL, cV, wA, fR, eV, cA) (nI e) (nI s) :=
  ⟨4, xl_fs_l ok he hs h 3 4 0 S wA fR bG eV cA (by omega) (by omega) rfl Q R X⟩
end XT
