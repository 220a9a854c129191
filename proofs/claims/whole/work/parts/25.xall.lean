theorem xl_vi {post : Int32 → Prop} {c k : Nat} (h : post (nI (4 * c + k))) : wpX_visitIndex post (nI c) (nI k) := by
  unfold wpX_visitIndex
  rw [xl_c4]
  exact h
theorem xl_vi0 {post : Int32 → Prop} {c : Nat} (h : post (nI (4 * c))) : wpX_visitIndex post (nI c) 0 := xl_vi (k := 0) h
section XU
variable {p : qp_T} {mm nw nc : Int32} {sC rU aR vC vS vN jT bG lV oJ oB oL cV wA fR eV cA : Nat → Int32}
theorem xl_s59 {post : SX → Prop} {e : Nat} (ok : qp_ok p) (he : e < 4) (hfr : ∀ s, s < 4 → fR s = nI (qp_sv p s))
    (h : ∀ cv wa ev cal, qx_R p qn_0 cv wa fR jT bG lV → qx_St e (qp_m p) ev cal (qn_P p qn_0) → post ((nI (qp_m p)), 0, nI (qp_m p), (qp_SV p), (qp_RU p), (qp_AR p), (qp_VC p), (qp_VS p), (qp_VN p), jT, bG, lV, oJ, oB, oL, cv, wa, fR, ev, cal)) :
    ∀ (d n c : Nat) (cv wa ev cal : Nat → Int32), c + d = qp_m p → d < n → (∀ b, b < c → cv b = nI (4 * b)) → (∀ b, b < c → wa b = -1) → qx_St e c ev cal (qx_Pi p c) → wX_startRun_59 post (nI e) n (nI c) (nI (qp_m p)) 0 (nI c) (qp_SV p) (qp_RU p) (qp_AR p) (qp_VC p) (qp_VS p) (qp_VN p) jT bG lV oJ oB oL cv wa fR ev cal := by
  have hm := ok.1
  intro d
  induction d with
  | zero =>
    intro n c cv wa ev cal h1 h2 h3 h4 X
    obtain ⟨n, rfl⟩ : ∃ m, n = m + 1 := ⟨n - 1, by omega⟩
    rw [wX_startRun_59]
    have ec : c = qp_m p := by omega
    subst ec
    rw [qx_Pi_m] at X
    exact br_t (nI_le (by omega) (by omega)) (h cv wa ev cal (qx_R0 h3 h4 hfr) X)
  | succ d ih =>
    intro n c cv wa ev cal h1 h2 h3 h4 X
    obtain ⟨n, rfl⟩ : ∃ m, n = m + 1 := ⟨n - 1, by omega⟩
    rw [wX_startRun_59]
    have ec : (nI c).toNatClampNeg = c := nI_clamp (by omega)
    have w : vp_in (nI c) 12 := vp_in_nI (by omega) (by omega)
    have har := (ok.2.2 c (by omega)).1
    have en : qp_AR p (nI c).toNatClampNeg * 32 + 16 + nI c = nI (qp_ar p c * 32 + 16 + c) := by
      rw [ec, qp_ARe, show (32 : Int32) = nI 32 from rfl, pk_mul, show (16 : Int32) = nI 16 from rfl, nI_add, nI_add]
    obtain ⟨eP, hP⟩ := qx_Pi_s (p := p) (i := c) (by omega)
    refine br_f (nI_ge (by omega) (by omega)) (xl_vi0 ⟨w, nm_r (e' := upd cv c (nI (4 * c))) (by rw [ec]) ⟨w, nm_r (e' := upd wa c (-1)) (by rw [ec]) ⟨w, ?_⟩⟩⟩)
    rw [en]
    refine xl_ad he (by omega) (by omega) hP X (fun ev' cal' X' => nm_r (nI_1 c) ?_)
    rw [← eP] at X'
    refine ih n (c + 1) _ _ ev' cal' (by omega) (by omega) (fun b hb => ?_) (fun b hb => ?_) X'
    · by_cases f : b = c
      · rw [f, pk_us]
      · rw [pk_un f]; exact h3 b (by omega)
    · by_cases f : b = c
      · rw [f, pk_us]
      · rw [pk_un f]; exact h4 b (by omega)
theorem xl_s34 {post : SX → Prop} {e : Nat} (h : ∀ fr, (∀ s, s < 4 → fr s = nI (qp_sv p s)) → ∃ n, wX_startRun_59 post (nI e) n 0 (nI (qp_m p)) 0 0 (qp_SV p) (qp_RU p) (qp_AR p) (qp_VC p) (qp_VS p) (qp_VN p) jT bG lV oJ oB oL cV wA fr eV cA) :
    ∀ (d n i : Nat) (fr : Nat → Int32), i + d = 4 → d < n → (∀ s, s < i → fr s = nI (qp_sv p s)) → wX_startRun_34 post (nI e) (nI (qp_m p)) 0 0 n (nI i) (qp_SV p) (qp_RU p) (qp_AR p) (qp_VC p) (qp_VS p) (qp_VN p) jT bG lV oJ oB oL cV wA fr eV cA := by
  intro d
  induction d with
  | zero =>
    intro n i fr h1 h2 h3
    obtain ⟨n, rfl⟩ : ∃ m, n = m + 1 := ⟨n - 1, by omega⟩
    rw [wX_startRun_34]
    exact br_t (nI_le (a := 4) (by omega) (by omega)) (h fr (fun s hs => h3 s (by omega)))
  | succ d ih =>
    intro n i fr h1 h2 h3
    obtain ⟨n, rfl⟩ : ∃ m, n = m + 1 := ⟨n - 1, by omega⟩
    rw [wX_startRun_34]
    have w : vp_in (nI i) 4 := vp_in_nI (by omega) (by omega)
    have ei : (nI i).toNatClampNeg = i := nI_clamp (by omega)
    refine br_f (nI_ge (b := 4) (by omega) (by decide)) ⟨w, w, nm_r (e' := upd fr i (nI (qp_sv p i))) (by rw [ei, qp_SVe]) (nm_r (nI_1 i) (ih n (i + 1) _ (by omega) (by omega) (fun s hs => ?_)))⟩
    by_cases f : s = i
    · rw [f, pk_us]
    · rw [pk_un f]; exact h3 s (by omega)
theorem xl_s12 {post : SX → Prop} {e : Nat} (h : ∀ cal, (∀ t, t < 1541 → cal t = 0) → ∃ n, wX_startRun_34 post (nI e) (nI (qp_m p)) 0 0 n 0 (qp_SV p) (qp_RU p) (qp_AR p) (qp_VC p) (qp_VS p) (qp_VN p) jT bG lV oJ oB oL cV wA fR eV cal) :
    ∀ (d n i : Nat) (cal : Nat → Int32), i + d = 1541 → d < n → (∀ t, t < i → cal t = 0) → wX_startRun_12 post (nI e) (nI (qp_m p)) 0 0 n (nI i) (qp_SV p) (qp_RU p) (qp_AR p) (qp_VC p) (qp_VS p) (qp_VN p) jT bG lV oJ oB oL cV wA fR eV cal := by
  intro d
  induction d with
  | zero =>
    intro n i cal h1 h2 h3
    obtain ⟨n, rfl⟩ : ∃ m, n = m + 1 := ⟨n - 1, by omega⟩
    rw [wX_startRun_12]
    exact br_t (nI_le (a := 1541) (by omega) (by omega)) (h cal (fun t ht => h3 t (by omega)))
  | succ d ih =>
    intro n i cal h1 h2 h3
    obtain ⟨n, rfl⟩ : ∃ m, n = m + 1 := ⟨n - 1, by omega⟩
    rw [wX_startRun_12]
    have ei : (nI i).toNatClampNeg = i := nI_clamp (by omega)
    refine br_f (nI_ge (b := 1541) (by omega) (by decide)) ⟨vp_in_nI (by omega) (by omega), nm_r (e' := upd cal i 0) (by rw [ei]) (nm_r (nI_1 i) (ih n (i + 1) _ (by omega) (by omega) (fun t ht => ?_)))⟩
    by_cases f : t = i
    · rw [f, pk_us]
    · rw [pk_un f]; exact h3 t (by omega)
theorem xl_sr {post : SX → Prop} {e : Nat} (ok : qp_ok p) (he : e < 4)
    (h : ∀ cv wa fr ev cal, qx_R p qn_0 cv wa fr jT bG lV → qx_St e (qp_m p) ev cal (qn_P p qn_0) → post ((nI (qp_m p)), 0, nI (qp_m p), (qp_SV p), (qp_RU p), (qp_AR p), (qp_VC p), (qp_VS p), (qp_VN p), jT, bG, lV, oJ, oB, oL, cv, wa, fr, ev, cal)) : wpX_startRun post ((nI (qp_m p)), nw, nc, (qp_SV p), (qp_RU p), (qp_AR p), (qp_VC p), (qp_VS p), (qp_VN p), jT, bG, lV, oJ, oB, oL, cV, wA, fR, eV, cA) (nI e) := by
  have hm := ok.1
  refine ⟨1542, xl_s12 (fun cal hz => ⟨5, xl_s34 (fun fr hfr => ⟨qp_m p + 1, xl_s59 ok he hfr (fun cv wa ev cal' R X => h cv wa fr ev cal' R X) (qp_m p) (qp_m p + 1) 0 cV wA eV cal (by omega) (by omega) (fun b hb => absurd hb (by omega)) (fun b hb => absurd hb (by omega)) ?_⟩) 4 5 0 fR (by omega) (by omega) (fun s hs => absurd hs (by omega))⟩) 1541 1542 0 cA (by omega) (by omega) (fun t ht => absurd ht (by omega))⟩
  refine ⟨fun _ => ⟨fun _ => 0, fun i hi => absurd hi (by omega), ⟨fun i hi => absurd hi (by omega), fun y hy => absurd hy (qx_Pi_0 y), fun i j _ hj => absurd hj (by omega)⟩, fun _ i j _ hj => absurd hj (by omega), fun _ i _ hi => absurd hi (by omega)⟩, fun _ => qs_Ca0 hz (fun y => qx_Pi_0 y), fun y hy => absurd hy (qx_Pi_0 y)⟩
theorem xl_r39 {post : SX → Prop} {J7 : _} {e t i : Nat} {S : qn_S} (ok : qp_ok p) (he : e < 4) (Q : qn_Q p t (t + 1) S)
    (h : ∀ wa fr bg ev cal, qx_R p (qn_fs p t S 4) cV wa fr jT bg lV → qx_St e (qn_nh p (qn_fs p t S 4)) ev cal (qn_P p (qn_fs p t S 4)) → J7 (nI (i + 1)) (nI (qp_m p)) (nI t) (nI (qn_nh p (qn_fs p t S 4))) (qp_SV p) (qp_RU p) (qp_AR p) (qp_VC p) (qp_VS p) (qp_VN p) jT bg lV oJ oB oL cV wa fr ev cal) :
    ∀ (d n s : Nat) (wa fr bg ev cal : Nat → Int32), s + d = 4 → d < n → qx_R p (qn_fs p t S s) cV wa fr jT bg lV → qx_St e (qn_nh p (qn_fs p t S s)) ev cal (qn_P p (qn_fs p t S s)) → wX_run_39 post J7 (nI e) (nI i) n (nI s) (nI (qp_m p)) (nI t) (nI (qn_nh p (qn_fs p t S s))) (qp_SV p) (qp_RU p) (qp_AR p) (qp_VC p) (qp_VS p) (qp_VN p) jT bg lV oJ oB oL cV wa fr ev cal := by
  intro d
  induction d with
  | zero =>
    intro n s wa fr bg ev cal h1 h2 R X
    obtain ⟨n, rfl⟩ : ∃ m, n = m + 1 := ⟨n - 1, by omega⟩
    rw [wX_run_39]
    have es : s = 4 := by omega
    subst es
    exact br_t (nI_le (a := 4) (b := 4) (by omega) (by omega)) (nm_r (nI_1 i) (h wa fr bg ev cal R X))
  | succ d ih =>
    intro n s wa fr bg ev cal h1 h2 R X
    obtain ⟨n, rfl⟩ : ∃ m, n = m + 1 := ⟨n - 1, by omega⟩
    rw [wX_run_39]
    exact br_f (nI_ge (b := 4) (by omega) (by decide)) (xl_fs ok he (by omega) (qn_Q_fs ok Q s (by omega)) R X (fun wa' fr' bg' ev' cal' R' X' => nm_r (nI_1 s) (ih n (s + 1) wa' fr' bg' ev' cal' (by omega) (by omega) R' X')))
theorem xl_run_l {post : SX → Prop} {e : Nat} (ok : qp_ok p) (he : e < 4)
    (h : ∀ nw' nc' jt bg lv cv wa fr ev cal, qn_Rs p jt bg lv → post ((nI (qp_m p)), nw', nc', (qp_SV p), (qp_RU p), (qp_AR p), (qp_VC p), (qp_VS p), (qp_VN p), jt, bg, lv, oJ, oB, oL, cv, wa, fr, ev, cal)) :
    ∀ (d n i T w : Nat) (jt bg lv cv wa fr ev cal : Nat → Int32), i + d = 60 → d < n → T ≤ 1541 → w ≤ T → i + qn_Phi p (qn_ps p T) ≤ 60 → qx_R p (qn_ps p T) cv wa fr jt bg lv → qx_St e (qn_nh p (qn_ps p T)) ev cal (qn_P p (qn_ps p T)) →
    wX_run_7 post (nI e) n (nI i) (nI (qp_m p)) (nI w) (nI (qn_nh p (qn_ps p T))) (qp_SV p) (qp_RU p) (qp_AR p) (qp_VC p) (qp_VS p) (qp_VN p) jt bg lv oJ oB oL cv wa fr ev cal := by
  have hm := ok.1
  have E : ∀ (T : Nat) (nw' : Int32) (jt bg lv cv wa fr ev cal : Nat → Int32), T ≤ 1541 → qn_nh p (qn_ps p T) = 0 → qx_R p (qn_ps p T) cv wa fr jt bg lv → post ((nI (qp_m p)), nw', nI (qn_nh p (qn_ps p T)), (qp_SV p), (qp_RU p), (qp_AR p), (qp_VC p), (qp_VS p), (qp_VN p), jt, bg, lv, oJ, oB, oL, cv, wa, fr, ev, cal) := by
    intro T nw' jt bg lv cv wa fr ev cal hT hz R
    have A := qn_A_ps ok T
    exact h _ _ _ _ _ _ _ _ _ _ (qn_Tm_R ok (by omega) (qn_all3 ok A.1 A.2.2.2.2 (qn_nh_no hz)) R.2.2.2)
  intro d
  induction d with
  | zero =>
    intro n i T w jt bg lv cv wa fr ev cal h1 h2 h3 h4 h5 R X
    obtain ⟨n, rfl⟩ : ∃ m, n = m + 1 := ⟨n - 1, by omega⟩
    rw [wX_run_7]
    exact br_t (nI_le (a := 60) (by omega) (by omega)) (E T _ jt bg lv cv wa fr ev cal h3 (qn_Phi_0 (qn_wfa (qn_A_ps ok T).1) (by omega)) R)
  | succ d ih =>
    intro n i T w jt bg lv cv wa fr ev cal h1 h2 h3 h4 h5 R X
    obtain ⟨n, rfl⟩ : ∃ m, n = m + 1 := ⟨n - 1, by omega⟩
    rw [wX_run_7]
    have hle := qn_nh_le (p := p) (S := qn_ps p T)
    refine br_f (nI_ge (b := 60) (by omega) (by decide)) ?_
    rcases Nat.eq_zero_or_pos (qn_nh p (qn_ps p T)) with z | z
    · exact br_t (by rw [z]; exact nI_le (a := 0) (b := 0) (by omega) (by omega)) (E T _ jt bg lv cv wa fr ev cal h3 z R)
    · obtain ⟨c, hc, hh, hl⟩ := qn_first z
      obtain ⟨a1, a2, a3, a4, a5⟩ := qn_A_ps ok T
      have hx := qn_num_lt ok a3 hc hh
      have htl := qn_tm_le ok a3 hc hh
      have hd := qn_num_d (p := p) (S := qn_ps p T) (c := c) (by omega)
      obtain ⟨hT, hps⟩ := qn_next ok hc hh hl
      have hw : w * 32 ≤ qn_num p (qn_ps p T) c := by omega
      refine br_f (nI_nle (by omega) (by omega)) (xl_fi he z (by omega) hx X ⟨c, hc, hh, rfl⟩ hl hw ⟨by decide, nm_r (e' := nI (qn_tm p (qn_ps p T) c)) (by rw [xl_d32 hx, hd]) ?_⟩)
      generalize ht : qn_tm p (qn_ps p T) c = t at *
      have A := qn_A_ps ok t
      rw [hps] at A
      have hfi : qn_fi p t (qn_ps p T) c = true := qn_fi_iff.mpr ⟨hc, hh, ht⟩
      have hst : qn_ps p (t + 1) = qn_fs p t (qn_ev p t (qn_fi p t (qn_ps p T)) (qn_ps p T)) 4 := by
        show qn_st p t (qn_ps p t) = _
        rw [hps]; rfl
      have hPhi := qn_Phi_st (t := t) (qn_wfa a1) hfi
      have hPhi2 : qn_Phi p (qn_ps p (t + 1)) + 1 ≤ qn_Phi p (qn_ps p T) := by
        show qn_Phi p (qn_st p t (qn_ps p t)) + 1 ≤ _
        rw [hps]; exact hPhi
      refine xl_ta ok he A hfi R X (fun cv' wa' fr' jt' lv' ev' cal' R' X' => ⟨5, xl_r39 ok he (qn_mid1 ok A hfi) (fun wa2 fr2 bg2 ev2 cal2 R2 X2 => ?_) 4 5 0 wa' fr' bg ev' cal' (by omega) (by omega) R' X'⟩)
      rw [← hst] at R2 X2
      rw [← hst]
      exact ih n (i + 1) (t + 1) t jt' bg2 lv' cv' wa2 fr2 ev2 cal2 (by omega) (by omega) (by omega) (by omega) (by omega) R2 X2
theorem xl_run {post : SX → Prop} {e : Nat} (ok : qp_ok p) (he : e < 4)
    (h : ∀ nw' nc' jt bg lv cv wa fr ev cal, qn_Rs p jt bg lv → post ((nI (qp_m p)), nw', nc', (qp_SV p), (qp_RU p), (qp_AR p), (qp_VC p), (qp_VS p), (qp_VN p), jt, bg, lv, oJ, oB, oL, cv, wa, fr, ev, cal)) : wpX_run post ((nI (qp_m p)), nw, nc, (qp_SV p), (qp_RU p), (qp_AR p), (qp_VC p), (qp_VS p), (qp_VN p), jT, bG, lV, oJ, oB, oL, cV, wA, fR, eV, cA) (nI e) := by
  refine xl_sr (nw := nw) (nc := nc) ok he (fun cv wa fr ev cal R X => ⟨61, ?_⟩)
  have L := xl_run_l (oJ := oJ) (oB := oB) (oL := oL) ok he h 60 61 0 0 0 jT bG lV cv wa fr ev cal (by omega) (by omega) (by omega) (by omega) (by have := qn_Phi_le (S := qn_ps p 0) ok; omega) R
  have e0 : qn_nh p (qn_ps p 0) = qp_m p := qn_nh_0
  rw [e0] at L
  exact L X
end XU
