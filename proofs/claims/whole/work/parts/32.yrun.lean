theorem qy_lf_fl {p : qp_T} {t s n : Nat} {S : qn_S} : qy_lf p (qn_fl p t s n S) = qy_lf p S := by
  refine qn_fl_ind (Q := fun R => qy_lf p R = qy_lf p S) (fun R c hR _ hc => ?_) n S rfl
  rw [qy_lf_beg (qn_wt_iff.mp (qn_pk_y hc).2).1]
  exact hR
theorem qy_lf_st {p : qp_T} {t : Nat} {S : qn_S} : qy_lf p (qn_st p t S) = qy_lf p (qn_ev p t (qn_fi p t S) S) := by
  unfold qn_st qn_f4
  rw [qy_lf_fl, qy_lf_fl, qy_lf_fl, qy_lf_fl]
theorem qy_lf_le {p : qp_T} {S : qn_S} : qy_lf p S ≤ qp_m p := qs_cnt_le _ _
theorem qy_KD {p : qp_T} {t i : Nat} {S : qn_S} (ok : qp_ok p) (A : qn_A p t S) : qn_Ka p t (qn_ev p t (qy_D p t S i) S) := fun c hc =>
  qn_K_ev (ok.2.2 c hc).2.1 (qn_K_mono (by omega) (A.1 c hc)) (fun d => (qn_fi_iff.mp (qy_D_f d)).2)
section YR
variable {p : qp_T} {jT bG lV nW : Nat → Int32}
theorem yl_153 {post : SY → Prop} {J30 : _} {J43 : _} {t r c : Nat} {S : qn_S} (ok : qp_ok p) (K : qn_Ka p r S) (hc : c < qp_m p) (hh : qn_hs S c = true) (R : qy_R p S nW jT bG lV) (h : ∀ nw jt bg lv, qy_R p (qn_ev p t (qn_one c) S) nw jt bg lv → J43 (nI (qy_lf p (qn_ev p t (qn_one c) S))) (nI (c + 1)) (nI (qp_m p)) (qp_SV p) (qp_RU p) (qp_AR p) (qp_VC p) (qp_VS p) (qp_VN p) jt bg lv nw) : wY_play_153 post J30 J43 (nI (qy_lf p S)) (nI t) (nI c) (nI (qn_nk S c)) (nI c) (nI (qp_m p)) (qp_SV p) (qp_RU p) (qp_AR p) (qp_VC p) (qp_VS p) (qp_VN p) jT bG lV nW := by
  have hm := ok.1
  have hv := (ok.2.2 c hc).2.1
  have hn := qn_nk_le (K c hc).1 hh
  have e : (nI c).toNatClampNeg = c := nI_clamp (by omega)
  have w : vp_in (nI c) 12 := vp_in_nI (by omega) (by omega)
  unfold wY_play_153
  refine yl_en ok K hc hh R (fun nw jt bg lv R' => ⟨w, ?_⟩)
  have H := h nw jt bg lv R'
  have en := R'.1 c hc
  rw [e, en]
  by_cases g : qn_nk S c = qp_vc p c
  · have h3 : qn_ph (qn_ev p t (qn_one c) S) c = 3 := by rw [qn_evy_ph (qn_one_s c), if_pos g]
    have el := qy_lf_lv (t := t) hc hh g
    rw [qy_nw_3 h3, el]
    exact br_t rfl (nm_r (nI_pred _) (nm_r (nI_1 c) H))
  · have h1 : qn_ph (qn_ev p t (qn_one c) S) c = 1 := by rw [qn_evy_ph (qn_one_s c), if_neg g]
    have el := qy_lf_jo (t := t) hh g
    rw [qy_nw_i (Or.inl h1), qn_evy_cu (qn_one_s c)]
    rw [el] at H
    exact br_f (fun z => by have := (nI_eq (b := 5) (by omega) (by omega)).mp z; omega) (nm_r (nI_1 c) H)
theorem yl_43 {post : SY → Prop} {J30 : _} {t : Nat} {S : qn_S} (ok : qp_ok p) (A : qn_A p t S) (ht : t < 2001)
    (hE : ∀ nw jt bg lv, qy_R p (qn_ev p t (qn_fi p t S) S) nw jt bg lv → ∃ n, wY_play_183 post J30 (nI (qy_lf p (qn_ev p t (qn_fi p t S) S))) (nI t) n 0 (nI (qp_m p)) (qp_SV p) (qp_RU p) (qp_AR p) (qp_VC p) (qp_VS p) (qp_VN p) jt bg lv nw) :
    ∀ (d n c : Nat) (nw jt bg lv : Nat → Int32), c + d = qp_m p → d < n → qy_R p (qn_ev p t (qy_D p t S c) S) nw jt bg lv → wY_play_43 post J30 (nI t) n (nI (qy_lf p (qn_ev p t (qy_D p t S c) S))) (nI c) (nI (qp_m p)) (qp_SV p) (qp_RU p) (qp_AR p) (qp_VC p) (qp_VS p) (qp_VN p) jt bg lv nw := by
  have hm := ok.1
  intro d
  induction d with
  | zero =>
    intro n c nw jt bg lv h1 h2 R
    obtain ⟨n, rfl⟩ : ∃ m, n = m + 1 := ⟨n - 1, by omega⟩
    rw [wY_play_43]
    have ec : c = qp_m p := by omega
    subst ec
    rw [qy_D_m] at R ⊢
    exact br_t (nI_le (by omega) (by omega)) (hE nw jt bg lv R)
  | succ d ih =>
    intro n c nw jt bg lv h1 h2 R
    obtain ⟨n, rfl⟩ : ∃ m, n = m + 1 := ⟨n - 1, by omega⟩
    rw [wY_play_43]
    have hc : c < qp_m p := by omega
    have K := qy_KD (i := c) ok A
    have hv := (ok.2.2 c hc).2.1
    have har := (ok.2.2 c hc).1
    have e : (nI c).toNatClampNeg = c := nI_clamp (by omega)
    have w : vp_in (nI c) 12 := vp_in_nI (by omega) (by omega)
    have nD := qy_D_n (p := p) (t := t) (i := c) (S := S)
    have hhs : qn_hs (qn_ev p t (qy_D p t S c) S) c = qn_hs S c := qn_evn_hs nD
    have htm : qn_tm p (qn_ev p t (qy_D p t S c) S) c = qn_tm p S c := qn_evn_tm nD
    -- it fires
    have Y : qn_fi p t S c = true → ∀ nw' jt' bg' lv', qy_R p (qn_ev p t (qn_one c) (qn_ev p t (qy_D p t S c) S)) nw' jt' bg' lv' → wY_play_43 post J30 (nI t) n (nI (qy_lf p (qn_ev p t (qn_one c) (qn_ev p t (qy_D p t S c) S)))) (nI (c + 1)) (nI (qp_m p)) (qp_SV p) (qp_RU p) (qp_AR p) (qp_VC p) (qp_VS p) (qp_VN p) jt' bg' lv' nw' := by
      intro f nw' jt' bg' lv' R'
      rw [← qy_D_ye f] at R' ⊢
      exact ih n (c + 1) nw' jt' bg' lv' (by omega) (by omega) R'
    -- it doesn't
    have N : ¬ qn_fi p t S c = true → wY_play_43 post J30 (nI t) n (nI (qy_lf p (qn_ev p t (qy_D p t S c) S))) (nI (c + 1)) (nI (qp_m p)) (qp_SV p) (qp_RU p) (qp_AR p) (qp_VC p) (qp_VS p) (qp_VN p) jt bg lv nw := by
      intro f
      have I := ih n (c + 1) nw jt bg lv (by omega) (by omega)
      rw [qy_D_no f] at I
      exact I R
    generalize qn_ev p t (qy_D p t S c) S = V at *
    have en : nw (nI c).toNatClampNeg = nI (qy_nw V c) := by rw [e, R.1 c hc]
    have ea : qp_AR p (nI c).toNatClampNeg = nI (qp_ar p c) := by rw [e, qp_ARe]
    refine br_f (nI_ge (by omega) (by omega)) ⟨w, ?_⟩
    rw [en]
    rcases (K c hc).1 with ⟨a, b⟩ | ⟨a, b⟩ | ⟨a, b⟩ | ⟨a, b⟩
    · rw [qy_nw_0 a]
      refine nm_e ⟨w, br_t (nI_le (a := 4) (b := 4) (by omega) (by omega)) (br_t rfl ⟨w, ?_⟩)⟩
      rw [en, qy_nw_0 a, ea]
      refine br_t rfl ⟨w, ?_⟩
      have hs : qn_hs S c = true := by rw [← hhs]; exact qn_hs_iff.mpr (Or.inl a)
      by_cases g : qp_ar p c = t
      · have f : qn_fi p t S c = true := qn_fi_iff.mpr ⟨hc, hs, by rw [← htm, qn_tm_0 a]; exact g⟩
        have ek : qn_nk V c = 0 := by rw [qn_nk_0 a, b]
        have X := yl_153 (post := post) (J30 := J30) (t := t) ok K hc (by rw [hhs]; exact hs) R (Y f)
        rw [ek] at X
        exact br_t (by rw [g]) (br_t rfl X)
      · have f : ¬ qn_fi p t S c = true := fun z => g (by have := (qn_fi_iff.mp z).2.2; rw [← htm, qn_tm_0 a] at this; exact this)
        exact br_f (fun z => g ((nI_eq (by omega) (by omega)).mp z)) (nm_r (nI_1 c) (N f))
    · have hcu := qn_cu4 ok K hc (Or.inl a)
      have f : ¬ qn_fi p t S c = true := fun z => by have h5 := (qn_fi_iff.mp z).2.1; rw [← hhs, qn_hs_iff] at h5; omega
      have eb : bg (4 * c + qn_cu V c) = -1 := R.2.1 c hc a
      rw [qy_nw_i (Or.inl a), yl_c4]
      refine nm_e ⟨w, br_f (nI_ge (b := 4) hcu.2 (by decide)) ⟨vp_in_nI (by omega) (by omega), ?_⟩⟩
      rw [nI_clamp (by omega), eb]
      refine br_t (by decide) (br_t rfl ⟨w, ?_⟩)
      rw [en, qy_nw_i (Or.inl a)]
      exact br_f (fun z => by have := (nI_eq (b := 4) (by omega) (by omega)).mp z; omega) (nm_r (nI_1 c) (N f))
    · have hcu := qn_cu4 ok K hc (Or.inr a)
      have hs : qn_hs S c = true := by rw [← hhs]; exact qn_hs_iff.mpr (Or.inr a)
      have eb : bg (4 * c + qn_cu V c) = nI (qn_B V (4 * c + qn_cu V c)) := (R.2.2 c hc).2.1 _ hcu.2 (Or.inr ⟨rfl, a⟩)
      have hB := ((K c hc).2.2.1 _ hcu.2 (Or.inr ⟨rfl, a⟩)).2
      have hvn := ((ok.2.2 c hc).2.2 _ hcu.1).2.2
      have w4 : vp_in (nI (4 * c + qn_cu V c)) 48 := vp_in_nI (by omega) (by omega)
      rw [qy_nw_i (Or.inr a), yl_c4]
      refine nm_e ⟨w, br_f (nI_ge (b := 4) hcu.2 (by decide)) ⟨w4, ?_⟩⟩
      rw [nI_clamp (by omega), eb, qp_VNe, nI_add]
      refine br_f (nI_pos (by omega)) ⟨w4, w4, ?_⟩
      by_cases g : qn_B V (4 * c + qn_cu V c) + qp_vn p (4 * c + qn_cu V c) = t
      · have f : qn_fi p t S c = true := qn_fi_iff.mpr ⟨hc, hs, by rw [← htm, qn_tm_2 a]; exact g⟩
        have X := yl_153 (post := post) (J30 := J30) (t := t) ok K hc (by rw [hhs]; exact hs) R (Y f)
        rw [qn_nk_2 a] at X
        refine br_t (by rw [g]) (br_f (by decide) (br_f (by decide) ⟨w, ?_⟩))
        rw [en, qy_nw_i (Or.inr a), nI_1]
        exact X
      · have f : ¬ qn_fi p t S c = true := fun z => g (by have := (qn_fi_iff.mp z).2.2; rw [← htm, qn_tm_2 a] at this; exact this)
        refine br_f (fun z => g ((nI_eq (by omega) (by omega)).mp z)) (br_t rfl ⟨w, ?_⟩)
        rw [en, qy_nw_i (Or.inr a)]
        exact br_f (fun z => by have := (nI_eq (b := 4) (by omega) (by omega)).mp z; omega) (nm_r (nI_1 c) (N f))
    · have f : ¬ qn_fi p t S c = true := fun z => by have h5 := (qn_fi_iff.mp z).2.1; rw [← hhs, qn_hs_iff] at h5; omega
      rw [qy_nw_3 a]
      refine nm_e ⟨w, br_t (nI_le (a := 4) (b := 5) (by omega) (by omega)) (br_t rfl ⟨w, ?_⟩)⟩
      rw [en, qy_nw_3 a]
      exact br_f (by decide) (nm_r (nI_1 c) (N f))
theorem yl_183 {post : SY → Prop} {J30 : _} {t : Nat} {S : qn_S} {x1 : Int32} (ok : qp_ok p) (ht : t < 2001)
    (h : ∀ bg, qn_Ka p t (qn_fs p t S 4) → qy_R p (qn_fs p t S 4) nW jT bg lV → J30 x1 (nI (t + 1)) (nI (qp_m p)) (qp_SV p) (qp_RU p) (qp_AR p) (qp_VC p) (qp_VS p) (qp_VN p) jT bg lV nW) :
    ∀ (d n s : Nat) (bg : Nat → Int32), s + d = 4 → d < n → qn_Ka p t (qn_fs p t S s) → qy_R p (qn_fs p t S s) nW jT bg lV → wY_play_183 post J30 x1 (nI t) n (nI s) (nI (qp_m p)) (qp_SV p) (qp_RU p) (qp_AR p) (qp_VC p) (qp_VS p) (qp_VN p) jT bg lV nW := by
  intro d
  induction d with
  | zero =>
    intro n s bg h1 h2 K R
    obtain ⟨n, rfl⟩ : ∃ m, n = m + 1 := ⟨n - 1, by omega⟩
    rw [wY_play_183]
    have es : s = 4 := by omega
    subst es
    exact br_t (nI_le (a := 4) (b := 4) (by omega) (by omega)) (nm_r (nI_1 t) (h bg K R))
  | succ d ih =>
    intro n s bg h1 h2 K R
    obtain ⟨n, rfl⟩ : ∃ m, n = m + 1 := ⟨n - 1, by omega⟩
    rw [wY_play_183]
    exact br_f (nI_ge (b := 4) (by omega) (by decide)) (yl_se ok K ht (by omega) R (fun bg' K' R' => nm_r (nI_1 s) (ih n (s + 1) bg' (by omega) (by omega) K' R')))
theorem yl_30 {post : SY → Prop} (ok : qp_ok p) (h : ∀ nw jt bg lv, qn_Rs p jt bg lv → post ((nI (qp_m p)), (qp_SV p), (qp_RU p), (qp_AR p), (qp_VC p), (qp_VS p), (qp_VN p), jt, bg, lv, nw)) :
    ∀ (d n t : Nat) (nw jt bg lv : Nat → Int32), t + d = 2000 → d < n → qy_R p (qn_ps p t) nw jt bg lv → wY_play_30 post n (nI (qy_lf p (qn_ps p t))) (nI t) (nI (qp_m p)) (qp_SV p) (qp_RU p) (qp_AR p) (qp_VC p) (qp_VS p) (qp_VN p) jt bg lv nw := by
  have hm := ok.1
  intro d
  induction d with
  | zero =>
    intro n t nw jt bg lv h1 h2 R
    obtain ⟨n, rfl⟩ : ∃ m, n = m + 1 := ⟨n - 1, by omega⟩
    rw [wY_play_30]
    exact br_t (nI_le (a := 2000) (by omega) (by omega)) (h nw jt bg lv (qn_Tm_R ok (by omega) (qn_gone ok (by omega)) R.2.2))
  | succ d ih =>
    intro n t nw jt bg lv h1 h2 R
    obtain ⟨n, rfl⟩ : ∃ m, n = m + 1 := ⟨n - 1, by omega⟩
    rw [wY_play_30]
    have hle := qy_lf_le (p := p) (S := qn_ps p t)
    refine br_f (nI_ge (b := 2000) (by omega) (by decide)) ?_
    rcases Nat.eq_zero_or_pos (qy_lf p (qn_ps p t)) with z | z
    · exact br_t (by rw [z]; exact nI_le (a := 0) (b := 0) (by omega) (by omega)) (h nw jt bg lv (qn_Tm_R ok (by omega) (qy_lf_0 z) R.2.2))
    · refine br_f (nI_nle (by omega) (by omega)) ?_
      have A := qn_A_ps ok t
      have L := yl_43 (post := post) (J30 := wY_play_30 post n) ok A (by omega) (fun nw' jt' bg' lv' R' => ⟨5, yl_183 (S := qn_ev p t (qn_fi p t (qn_ps p t)) (qn_ps p t)) ok (by omega) (fun bg2 K2 R2 => ?_) 4 5 0 bg' (by omega) (by omega) ?_ R'⟩) (qp_m p) (qp_m p + 1) 0 nw jt bg lv (by omega) (by omega)
      · rw [qy_D_0] at L
        exact ⟨qp_m p + 1, L R⟩
      · have e : qn_fs p t (qn_ev p t (qn_fi p t (qn_ps p t)) (qn_ps p t)) 4 = qn_ps p (t + 1) := rfl
        rw [e] at R2
        have I := ih n (t + 1) nw' jt' bg2 lv' (by omega) (by omega) R2
        have el : qy_lf p (qn_ps p (t + 1)) = qy_lf p (qn_ev p t (qn_fi p t (qn_ps p t)) (qn_ps p t)) := qy_lf_st
        rw [el] at I
        exact I
      · have K := qy_KD (i := qp_m p) ok A
        rw [qy_D_m] at K
        exact K
theorem yl_2 {post : SY → Prop} (ok : qp_ok p) (h : ∀ nw jt bg lv, qn_Rs p jt bg lv → post ((nI (qp_m p)), (qp_SV p), (qp_RU p), (qp_AR p), (qp_VC p), (qp_VS p), (qp_VN p), jt, bg, lv, nw)) :
    ∀ (d n c : Nat) (nw : Nat → Int32), c + d = qp_m p → d < n → (∀ b, b < c → nw b = nI 4) → wY_play_2 post (nI (qp_m p)) n (nI c) (qp_SV p) (qp_RU p) (qp_AR p) (qp_VC p) (qp_VS p) (qp_VN p) jT bG lV nw := by
  have hm := ok.1
  intro d
  induction d with
  | zero =>
    intro n c nw h1 h2 h3
    obtain ⟨n, rfl⟩ : ∃ m, n = m + 1 := ⟨n - 1, by omega⟩
    rw [wY_play_2]
    have R : qy_R p (qn_ps p 0) nw jT bG lV := qy_R0 (fun c' hc => h3 c' (by omega))
    have L := yl_30 ok h 2000 2001 0 nw jT bG lV (by omega) (by omega) R
    have e0 : qy_lf p (qn_ps p 0) = qp_m p := qy_lf_s
    rw [e0] at L
    exact br_t (nI_le (by omega) (by omega)) ⟨2001, L⟩
  | succ d ih =>
    intro n c nw h1 h2 h3
    obtain ⟨n, rfl⟩ : ∃ m, n = m + 1 := ⟨n - 1, by omega⟩
    rw [wY_play_2]
    have e : (nI c).toNatClampNeg = c := nI_clamp (by omega)
    refine br_f (nI_ge (by omega) (by omega)) ⟨vp_in_nI (by omega) (by omega), nm_r (e' := upd nw c (nI 4)) (congrArg (fun i => upd nw i (nI 4)) e) (nm_r (nI_1 c) (ih n (c + 1) _ (by omega) (by omega) (fun b hb => ?_)))⟩
    by_cases f : b = c
    · rw [f, pk_us]
    · rw [pk_un f]; exact h3 b (by omega)
theorem yl_pl {post : SY → Prop} (ok : qp_ok p) (h : ∀ nw jt bg lv, qn_Rs p jt bg lv → post ((nI (qp_m p)), (qp_SV p), (qp_RU p), (qp_AR p), (qp_VC p), (qp_VS p), (qp_VN p), jt, bg, lv, nw)) : wpY_play post ((nI (qp_m p)), (qp_SV p), (qp_RU p), (qp_AR p), (qp_VC p), (qp_VS p), (qp_VN p), jT, bG, lV, nW) :=
  ⟨qp_m p + 1, yl_2 ok h (qp_m p) (qp_m p + 1) 0 nW (by omega) (by omega) (fun b hb => absurd hb (by omega))⟩
end YR
