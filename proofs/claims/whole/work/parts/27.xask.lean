theorem qq_RJ {p : qp_T} {jT bG lV : Nat → Int32} (Rs : qn_Rs p jT bG lV) {c k : Nat} (hc : c < qp_m p) (hk : k < qp_vc p c) : jT (4 * c + k) = nI (qq_J p (4 * c + k)) ∧ bG (4 * c + k) = nI (qq_B p (4 * c + k)) := (Rs c hc).2 k hk
theorem qq_RL {p : qp_T} {jT bG lV : Nat → Int32} (Rs : qn_Rs p jT bG lV) {c : Nat} (hc : c < qp_m p) : lV c = nI (qq_L p c) := (Rs c hc).1
theorem qq_fb {p : qp_T} (ok : qp_ok p) {c k : Nat} (hc : c < qp_m p) (hk : k < qp_vc p c) : qq_J p (4 * c + k) ≤ qq_B p (4 * c + k) ∧ qq_B p (4 * c + k) ≤ qq_E p (4 * c + k) ∧ qq_E p (4 * c + k) ≤ 1540 ∧ 4 * c + k < 48 ∧ qp_vs p (4 * c + k) < 4 := by
  have hm := ok.1
  have hv := (ok.2.2 c hc).2.1
  have h1 := qq_f ok (i := 4 * c + k) (by rw [qn_d4 (by omega)]; exact hc) (by rw [qn_d4 (by omega), qn_m4 (by omega)]; exact hk)
  have h2 := ((ok.2.2 c hc).2.2 k hk).1
  have h3 : qq_E p (4 * c + k) = qq_B p (4 * c + k) + qp_vn p (4 * c + k) := rfl
  omega
section XA
variable {p : qp_T} {mm nw nc : Int32} {sC rU aR vC vS vN jT bG lV oJ oB oL cV wA fR eV cA : Nat → Int32}
theorem xq_en {post : Int32 → Prop} {i b : Nat} (hi : i < 48) (hb : bG i = nI b) (h : post (nI (b + qp_vn p i))) : wpX_endTime post ((nI (qp_m p)), nw, nc, (qp_SV p), (qp_RU p), (qp_AR p), (qp_VC p), (qp_VS p), (qp_VN p), jT, bG, lV, oJ, oB, oL, cV, wA, fR, eV, cA) (nI i) := by
  have e : (nI i).toNatClampNeg = i := nI_clamp (by omega)
  have w : vp_in (nI i) 48 := vp_in_nI hi (by omega)
  refine ⟨w, w, ?_⟩
  rw [e, hb, qp_VNe, nI_add]
  exact h
theorem xq_cp_i {post : Int32 → Prop} {J5 : _} {s t c : Nat} (ok : qp_ok p) (Rs : qn_Rs p jT bG lV) (hs : s < 4) (ht : t ≤ 10000) (hc : c < qp_m p) (hJ : J5 (nI (qs_cnt (qq_do p s t 0) (4 * (c + 1)))) (nI (c + 1))) :
    ∀ (d n k : Nat), k + d = qp_vc p c → d < n → wX_countPresent_17 post J5 (nI s) (nI t) (nI c) (nI (qp_m p)) nw nc (qp_SV p) (qp_RU p) (qp_AR p) (qp_VC p) (qp_VS p) (qp_VN p) jT bG lV oJ oB oL cV wA fR eV cA n (nI (qs_cnt (qq_do p s t 0) (4 * c + k))) (nI k) := by
  have hm := ok.1
  have hv := (ok.2.2 c hc).2.1
  have e : (nI c).toNatClampNeg = c := nI_clamp (by omega)
  have w : vp_in (nI c) 12 := vp_in_nI (by omega) (by omega)
  intro d
  induction d with
  | zero =>
    intro n k h1 h2
    obtain ⟨n, rfl⟩ : ∃ m, n = m + 1 := ⟨n - 1, by omega⟩
    rw [wX_countPresent_17]
    refine ⟨w, ?_⟩
    rw [e, qp_VCe]
    have ek : k = qp_vc p c := by omega
    subst ek
    rw [qq_c_in hv] at hJ
    exact br_t (nI_le (by omega) (by omega)) (nm_r (nI_1 c) hJ)
  | succ d ih =>
    intro n k h1 h2
    obtain ⟨n, rfl⟩ : ∃ m, n = m + 1 := ⟨n - 1, by omega⟩
    rw [wX_countPresent_17]
    refine ⟨w, ?_⟩
    rw [e, qp_VCe]
    have hk : k < qp_vc p c := by omega
    have I := ih n (k + 1) (by omega) (by omega)
    rw [show 4 * c + (k + 1) = 4 * c + k + 1 from rfl] at I
    obtain ⟨b1, b2, b3, b4, b5⟩ := qq_fb ok hc hk
    obtain ⟨rj, rb⟩ := qq_RJ Rs hc hk
    have hd := qq_do_0 (s := s) (t := t) hc hk hv
    have ei : (nI (4 * c + k)).toNatClampNeg = 4 * c + k := nI_clamp (by omega)
    have wi : vp_in (nI (4 * c + k)) 48 := vp_in_nI b4 (by omega)
    refine br_f (nI_ge hk (by omega)) (xl_vi ⟨wi, ?_⟩)
    rw [ei, qp_VSe, rj]
    by_cases g1 : qp_vs p (4 * c + k) = s
    · refine br_t (by rw [g1]) ⟨wi, ?_⟩
      by_cases g2 : qq_J p (4 * c + k) ≤ t
      · refine br_f (nI_nlt g2 (by omega)) (xq_en b4 rb ?_)
        show (nI (qq_E p (4 * c + k)) ≤ nI t → _) ∧ (¬ nI (qq_E p (4 * c + k)) ≤ nI t → _)
        by_cases g3 : t < qq_E p (4 * c + k)
        · rw [qs_cnt_t (hd.mpr ⟨g1, g2, g3⟩)] at I
          exact br_f (nI_ge g3 (by omega)) (nm_r (nI_1 _) (nm_r (nI_1 k) I))
        · rw [qs_cnt_f (fun z => g3 (hd.mp z).2.2)] at I
          exact br_t (nI_le (by omega) (by omega)) (nm_r (nI_1 k) I)
      · rw [qs_cnt_f (fun z => g2 (hd.mp z).2.1)] at I
        exact br_t (nI_lt (by omega) (by omega)) (nm_r (nI_1 k) I)
    · rw [qs_cnt_f (fun z => g1 (hd.mp z).1)] at I
      exact br_f (fun z => g1 ((nI_eq (by omega) (by omega)).mp z)) (nm_r (nI_1 k) I)
theorem xq_cp_o {post : Int32 → Prop} {s t : Nat} (ok : qp_ok p) (Rs : qn_Rs p jT bG lV) (hs : s < 4) (ht : t ≤ 10000) (h : post (nI (qq_n p s t 0))) :
    ∀ (d n c : Nat), c + d = qp_m p → d < n → wX_countPresent_5 post (nI s) (nI t) (nI (qp_m p)) nw nc (qp_SV p) (qp_RU p) (qp_AR p) (qp_VC p) (qp_VS p) (qp_VN p) jT bG lV oJ oB oL cV wA fR eV cA n (nI (qs_cnt (qq_do p s t 0) (4 * c))) (nI c) := by
  have hm := ok.1
  intro d
  induction d with
  | zero =>
    intro n c h1 h2
    obtain ⟨n, rfl⟩ : ∃ m, n = m + 1 := ⟨n - 1, by omega⟩
    rw [wX_countPresent_5]
    have ec : c = qp_m p := by omega
    subst ec
    rw [qq_c_out hm] at h
    exact br_t (nI_le (by omega) (by omega)) h
  | succ d ih =>
    intro n c h1 h2
    obtain ⟨n, rfl⟩ : ∃ m, n = m + 1 := ⟨n - 1, by omega⟩
    rw [wX_countPresent_5]
    have hc : c < qp_m p := by omega
    exact br_f (nI_ge hc (by omega)) ⟨qp_vc p c + 1, xq_cp_i ok Rs hs ht hc (ih n (c + 1) (by omega) (by omega)) (qp_vc p c) (qp_vc p c + 1) 0 (by omega) (by omega)⟩
theorem xq_cp {post : Int32 → Prop} {s t : Nat} (ok : qp_ok p) (Rs : qn_Rs p jT bG lV) (hs : s < 4) (ht : t ≤ 10000) (h : post (nI (qq_n p s t 0))) : wpX_countPresent post ((nI (qp_m p)), nw, nc, (qp_SV p), (qp_RU p), (qp_AR p), (qp_VC p), (qp_VS p), (qp_VN p), jT, bG, lV, oJ, oB, oL, cV, wA, fR, eV, cA) (nI s) (nI t) :=
  ⟨qp_m p + 1, xq_cp_o ok Rs hs ht h (qp_m p) (qp_m p + 1) 0 (by omega) (by omega)⟩
theorem xq_cw_i {post : Int32 → Prop} {J5 : _} {s t c : Nat} (ok : qp_ok p) (Rs : qn_Rs p jT bG lV) (hs : s < 4) (ht : t ≤ 10000) (hc : c < qp_m p) (hJ : J5 (nI (qs_cnt (qq_do p s t 1) (4 * (c + 1)))) (nI (c + 1))) :
    ∀ (d n k : Nat), k + d = qp_vc p c → d < n → wX_countWaiting_17 post J5 (nI s) (nI t) (nI c) (nI (qp_m p)) nw nc (qp_SV p) (qp_RU p) (qp_AR p) (qp_VC p) (qp_VS p) (qp_VN p) jT bG lV oJ oB oL cV wA fR eV cA n (nI (qs_cnt (qq_do p s t 1) (4 * c + k))) (nI k) := by
  have hm := ok.1
  have hv := (ok.2.2 c hc).2.1
  have e : (nI c).toNatClampNeg = c := nI_clamp (by omega)
  have w : vp_in (nI c) 12 := vp_in_nI (by omega) (by omega)
  intro d
  induction d with
  | zero =>
    intro n k h1 h2
    obtain ⟨n, rfl⟩ : ∃ m, n = m + 1 := ⟨n - 1, by omega⟩
    rw [wX_countWaiting_17]
    refine ⟨w, ?_⟩
    rw [e, qp_VCe]
    have ek : k = qp_vc p c := by omega
    subst ek
    rw [qq_c_in hv] at hJ
    exact br_t (nI_le (by omega) (by omega)) (nm_r (nI_1 c) hJ)
  | succ d ih =>
    intro n k h1 h2
    obtain ⟨n, rfl⟩ : ∃ m, n = m + 1 := ⟨n - 1, by omega⟩
    rw [wX_countWaiting_17]
    refine ⟨w, ?_⟩
    rw [e, qp_VCe]
    have hk : k < qp_vc p c := by omega
    have I := ih n (k + 1) (by omega) (by omega)
    rw [show 4 * c + (k + 1) = 4 * c + k + 1 from rfl] at I
    obtain ⟨b1, b2, b3, b4, b5⟩ := qq_fb ok hc hk
    obtain ⟨rj, rb⟩ := qq_RJ Rs hc hk
    have hd := qq_do_1 (s := s) (t := t) hc hk hv
    have ei : (nI (4 * c + k)).toNatClampNeg = 4 * c + k := nI_clamp (by omega)
    have wi : vp_in (nI (4 * c + k)) 48 := vp_in_nI b4 (by omega)
    refine br_f (nI_ge hk (by omega)) (xl_vi ⟨wi, ?_⟩)
    rw [ei, qp_VSe, rj]
    by_cases g1 : qp_vs p (4 * c + k) = s
    · refine br_t (by rw [g1]) ⟨wi, ?_⟩
      by_cases g2 : qq_J p (4 * c + k) ≤ t
      · refine br_f (nI_nlt g2 (by omega)) ⟨wi, ?_⟩
        rw [rb]
        by_cases g3 : t < qq_B p (4 * c + k)
        · rw [qs_cnt_t (hd.mpr ⟨g1, g2, g3⟩)] at I
          exact br_f (nI_ge g3 (by omega)) (nm_r (nI_1 _) (nm_r (nI_1 k) I))
        · rw [qs_cnt_f (fun z => g3 (hd.mp z).2.2)] at I
          exact br_t (nI_le (by omega) (by omega)) (nm_r (nI_1 k) I)
      · rw [qs_cnt_f (fun z => g2 (hd.mp z).2.1)] at I
        exact br_t (nI_lt (by omega) (by omega)) (nm_r (nI_1 k) I)
    · rw [qs_cnt_f (fun z => g1 (hd.mp z).1)] at I
      exact br_f (fun z => g1 ((nI_eq (by omega) (by omega)).mp z)) (nm_r (nI_1 k) I)
theorem xq_cw_o {post : Int32 → Prop} {s t : Nat} (ok : qp_ok p) (Rs : qn_Rs p jT bG lV) (hs : s < 4) (ht : t ≤ 10000) (h : post (nI (qq_n p s t 1))) :
    ∀ (d n c : Nat), c + d = qp_m p → d < n → wX_countWaiting_5 post (nI s) (nI t) (nI (qp_m p)) nw nc (qp_SV p) (qp_RU p) (qp_AR p) (qp_VC p) (qp_VS p) (qp_VN p) jT bG lV oJ oB oL cV wA fR eV cA n (nI (qs_cnt (qq_do p s t 1) (4 * c))) (nI c) := by
  have hm := ok.1
  intro d
  induction d with
  | zero =>
    intro n c h1 h2
    obtain ⟨n, rfl⟩ : ∃ m, n = m + 1 := ⟨n - 1, by omega⟩
    rw [wX_countWaiting_5]
    have ec : c = qp_m p := by omega
    subst ec
    rw [qq_c_out hm] at h
    exact br_t (nI_le (by omega) (by omega)) h
  | succ d ih =>
    intro n c h1 h2
    obtain ⟨n, rfl⟩ : ∃ m, n = m + 1 := ⟨n - 1, by omega⟩
    rw [wX_countWaiting_5]
    have hc : c < qp_m p := by omega
    exact br_f (nI_ge hc (by omega)) ⟨qp_vc p c + 1, xq_cw_i ok Rs hs ht hc (ih n (c + 1) (by omega) (by omega)) (qp_vc p c) (qp_vc p c + 1) 0 (by omega) (by omega)⟩
theorem xq_cw {post : Int32 → Prop} {s t : Nat} (ok : qp_ok p) (Rs : qn_Rs p jT bG lV) (hs : s < 4) (ht : t ≤ 10000) (h : post (nI (qq_n p s t 1))) : wpX_countWaiting post ((nI (qp_m p)), nw, nc, (qp_SV p), (qp_RU p), (qp_AR p), (qp_VC p), (qp_VS p), (qp_VN p), jT, bG, lV, oJ, oB, oL, cV, wA, fR, eV, cA) (nI s) (nI t) :=
  ⟨qp_m p + 1, xq_cw_o ok Rs hs ht h (qp_m p) (qp_m p + 1) 0 (by omega) (by omega)⟩
theorem xq_ss_80 {post : Int32 → Prop} {J5 : _} {J17 : _} {x1 x2 x4 : Int32} {a u j k i : Nat} (hi : i < 48) (hj : jT i = nI j) (hu : j ≤ u) (h : J17 (nI (a + (u - j))) (nI (k + 1))) : wX_sumOfStaysBefore_80 post J5 J17 x1 x2 (nI a) x4 (nI k) (nI i) (nI u) (nI (qp_m p)) nw nc (qp_SV p) (qp_RU p) (qp_AR p) (qp_VC p) (qp_VS p) (qp_VN p) jT bG lV oJ oB oL cV wA fR eV cA := by
  have e : (nI i).toNatClampNeg = i := nI_clamp (by omega)
  exact ⟨vp_in_nI hi (by omega), nm_r (e' := nI (a + (u - j))) (by rw [e, hj, pk_sub hu, nI_add]) (nm_r (nI_1 k) h)⟩
theorem xq_ss_i {post : Int32 → Prop} {J5 : _} {s t c : Nat} (ok : qp_ok p) (Rs : qn_Rs p jT bG lV) (hs : s < 4) (ht : t ≤ 10000) (hc : c < qp_m p) (hJ : J5 (nI (qs_sum (qq_cl p s t) (4 * (c + 1)))) (nI (c + 1))) :
    ∀ (d n k : Nat), k + d = qp_vc p c → d < n → wX_sumOfStaysBefore_17 post J5 (nI s) (nI t) (nI c) (nI (qp_m p)) nw nc (qp_SV p) (qp_RU p) (qp_AR p) (qp_VC p) (qp_VS p) (qp_VN p) jT bG lV oJ oB oL cV wA fR eV cA n (nI (qs_sum (qq_cl p s t) (4 * c + k))) (nI k) := by
  have hm := ok.1
  have hv := (ok.2.2 c hc).2.1
  have e : (nI c).toNatClampNeg = c := nI_clamp (by omega)
  have w : vp_in (nI c) 12 := vp_in_nI (by omega) (by omega)
  intro d
  induction d with
  | zero =>
    intro n k h1 h2
    obtain ⟨n, rfl⟩ : ∃ m, n = m + 1 := ⟨n - 1, by omega⟩
    rw [wX_sumOfStaysBefore_17]
    refine ⟨w, ?_⟩
    rw [e, qp_VCe]
    have ek : k = qp_vc p c := by omega
    subst ek
    rw [qq_s_in hv] at hJ
    exact br_t (nI_le (by omega) (by omega)) (nm_r (nI_1 c) hJ)
  | succ d ih =>
    intro n k h1 h2
    obtain ⟨n, rfl⟩ : ∃ m, n = m + 1 := ⟨n - 1, by omega⟩
    rw [wX_sumOfStaysBefore_17]
    refine ⟨w, ?_⟩
    rw [e, qp_VCe]
    have hk : k < qp_vc p c := by omega
    have I := ih n (k + 1) (by omega) (by omega)
    rw [show 4 * c + (k + 1) = 4 * c + k + 1 from rfl, qs_sum_s, qq_cl_v hc hk hv] at I
    obtain ⟨b1, b2, b3, b4, b5⟩ := qq_fb ok hc hk
    obtain ⟨rj, rb⟩ := qq_RJ Rs hc hk
    have ei : (nI (4 * c + k)).toNatClampNeg = 4 * c + k := nI_clamp (by omega)
    have wi : vp_in (nI (4 * c + k)) 48 := vp_in_nI b4 (by omega)
    refine br_f (nI_ge hk (by omega)) (xl_vi ⟨wi, ?_⟩)
    rw [ei, qp_VSe, rj]
    by_cases g1 : qp_vs p (4 * c + k) = s
    · refine br_t (by rw [g1]) ⟨wi, ?_⟩
      by_cases g2 : qq_J p (4 * c + k) < t
      · rw [if_pos ⟨g1, g2⟩] at I
        refine br_f (nI_ge g2 (by omega)) (xq_en b4 rb ?_)
        show (nI t ≤ nI (qq_E p (4 * c + k)) → _) ∧ (¬ nI t ≤ nI (qq_E p (4 * c + k)) → _)
        by_cases g3 : qq_E p (4 * c + k) < t
        · rw [if_pos g3] at I
          exact br_f (nI_ge g3 (by omega)) (xq_en b4 rb (xq_ss_80 b4 rj (u := qq_E p (4 * c + k)) (by omega) I))
        · rw [if_neg g3] at I
          exact br_t (nI_le (by omega) (by omega)) (xq_ss_80 b4 rj (by omega) I)
      · rw [if_neg (fun z => g2 z.2), Nat.add_zero] at I
        exact br_t (nI_le (by omega) (by omega)) (nm_r (nI_1 k) I)
    · rw [if_neg (fun z => g1 z.1), Nat.add_zero] at I
      exact br_f (fun z => g1 ((nI_eq (by omega) (by omega)).mp z)) (nm_r (nI_1 k) I)
theorem xq_ss_o {post : Int32 → Prop} {s t : Nat} (ok : qp_ok p) (Rs : qn_Rs p jT bG lV) (hs : s < 4) (ht : t ≤ 10000) (h : post (nI (qq_ar p s t))) :
    ∀ (d n c : Nat), c + d = qp_m p → d < n → wX_sumOfStaysBefore_5 post (nI s) (nI t) (nI (qp_m p)) nw nc (qp_SV p) (qp_RU p) (qp_AR p) (qp_VC p) (qp_VS p) (qp_VN p) jT bG lV oJ oB oL cV wA fR eV cA n (nI (qs_sum (qq_cl p s t) (4 * c))) (nI c) := by
  have hm := ok.1
  intro d
  induction d with
  | zero =>
    intro n c h1 h2
    obtain ⟨n, rfl⟩ : ∃ m, n = m + 1 := ⟨n - 1, by omega⟩
    rw [wX_sumOfStaysBefore_5]
    have ec : c = qp_m p := by omega
    subst ec
    rw [← qq_ar_cl ok, qq_s_out hm] at h
    exact br_t (nI_le (by omega) (by omega)) h
  | succ d ih =>
    intro n c h1 h2
    obtain ⟨n, rfl⟩ : ∃ m, n = m + 1 := ⟨n - 1, by omega⟩
    rw [wX_sumOfStaysBefore_5]
    have hc : c < qp_m p := by omega
    exact br_f (nI_ge hc (by omega)) ⟨qp_vc p c + 1, xq_ss_i ok Rs hs ht hc (ih n (c + 1) (by omega) (by omega)) (qp_vc p c) (qp_vc p c + 1) 0 (by omega) (by omega)⟩
theorem xq_ss {post : Int32 → Prop} {s t : Nat} (ok : qp_ok p) (Rs : qn_Rs p jT bG lV) (hs : s < 4) (ht : t ≤ 10000) (h : post (nI (qq_ar p s t))) : wpX_sumOfStaysBefore post ((nI (qp_m p)), nw, nc, (qp_SV p), (qp_RU p), (qp_AR p), (qp_VC p), (qp_VS p), (qp_VN p), jT, bG, lV, oJ, oB, oL, cV, wA, fR, eV, cA) (nI s) (nI t) :=
  ⟨qp_m p + 1, xq_ss_o ok Rs hs ht h (qp_m p) (qp_m p + 1) 0 (by omega) (by omega)⟩
theorem xq_lb_l {post : Int32 → Prop} {c : Nat} (ok : qp_ok p) (Rs : qn_Rs p jT bG lV) (hc : c < qp_m p) (h : post (nI (qq_be p c))) :
    ∀ (d n b : Nat), b + d = qp_m p → d < n → wX_countLeavingBefore_4 post (nI c) (nI (qp_m p)) nw nc (qp_SV p) (qp_RU p) (qp_AR p) (qp_VC p) (qp_VS p) (qp_VN p) jT bG lV oJ oB oL cV wA fR eV cA n (nI (qs_cnt (qq_bb p c) b)) (nI b) := by
  have hm := ok.1
  intro d
  induction d with
  | zero =>
    intro n b h1 h2
    obtain ⟨n, rfl⟩ : ∃ m, n = m + 1 := ⟨n - 1, by omega⟩
    rw [wX_countLeavingBefore_4]
    have eb : b = qp_m p := by omega
    subst eb
    exact br_t (nI_le (by omega) (by omega)) h
  | succ d ih =>
    intro n b h1 h2
    obtain ⟨n, rfl⟩ : ∃ m, n = m + 1 := ⟨n - 1, by omega⟩
    rw [wX_countLeavingBefore_4]
    have hb : b < qp_m p := by omega
    have I := ih n (b + 1) (by omega) (by omega)
    have ec : (nI c).toNatClampNeg = c := nI_clamp (by omega)
    have eb : (nI b).toNatClampNeg = b := nI_clamp (by omega)
    have wc : vp_in (nI c) 12 := vp_in_nI (by omega) (by omega)
    have wb : vp_in (nI b) 12 := vp_in_nI (by omega) (by omega)
    have lc : qq_L p c ≤ 1540 := (qn_R_f ok hc).1
    have lb : qq_L p b ≤ 1540 := (qn_R_f ok hb).1
    have rc := qq_RL Rs hc
    have rb := qq_RL Rs hb
    refine br_f (nI_ge hb (by omega)) ⟨wb, wc, ?_⟩
    rw [eb, ec, rb, rc]
    by_cases g1 : qq_L p b < qq_L p c
    · have t : qq_bb p c b = true := decide_eq_true (Or.inl g1)
      rw [qs_cnt_t t] at I
      exact br_t (nI_lt g1 (by omega)) (nm_r (nI_1 _) (nm_r (nI_1 b) I))
    · refine br_f (nI_nlt (by omega) (by omega)) ⟨wb, wc, ?_⟩
      by_cases g2 : qq_L p b = qq_L p c
      · refine br_t (by rw [g2]) ?_
        by_cases g3 : b < c
        · have t : qq_bb p c b = true := decide_eq_true (Or.inr ⟨g2, g3⟩)
          rw [qs_cnt_t t] at I
          exact br_f (nI_ge g3 (by omega)) (nm_r (nI_1 _) (nm_r (nI_1 b) I))
        · have t : ¬ qq_bb p c b = true := fun z => by have := of_decide_eq_true z; omega
          rw [qs_cnt_f t] at I
          exact br_t (nI_le (by omega) (by omega)) (nm_r (nI_1 b) I)
      · have t : ¬ qq_bb p c b = true := fun z => by have := of_decide_eq_true z; omega
        rw [qs_cnt_f t] at I
        exact br_f (fun z => g2 ((nI_eq (by omega) (by omega)).mp z)) (nm_r (nI_1 b) I)
theorem xq_lb {post : Int32 → Prop} {c : Nat} (ok : qp_ok p) (Rs : qn_Rs p jT bG lV) (hc : c < qp_m p) (h : post (nI (qq_be p c))) : wpX_countLeavingBefore post ((nI (qp_m p)), nw, nc, (qp_SV p), (qp_RU p), (qp_AR p), (qp_VC p), (qp_VS p), (qp_VN p), jT, bG, lV, oJ, oB, oL, cV, wA, fR, eV, cA) (nI c) :=
  ⟨qp_m p + 1, xq_lb_l ok Rs hc h (qp_m p) (qp_m p + 1) 0 (by omega) (by omega)⟩
end XA
