def qq_or (p : qp_T) (v : Int32) (c : Nat) (r : Int32) : Prop := (∃ b, b < c ∧ nI (qq_be p b) = v ∧ r = nI b) ∨ (r = -1 ∧ ∀ b, b < c → ¬ nI (qq_be p b) = v)
theorem qq_or_u {p : qp_T} (ok : qp_ok p) {v r q : Int32} (h : qq_or p v (qp_m p) r) (g : qq_or p v (qp_m p) q) : q = r := by
  have hm := ok.1
  rcases h with ⟨b, hb, e, rfl⟩ | ⟨rfl, hn⟩
  · rcases g with ⟨d, hd, f, rfl⟩ | ⟨rfl, hn⟩
    · have h1 := qq_be_lt hb
      have h2 := qq_be_lt hd
      have h3 := (nI_eq (by omega) (by omega)).mp (f.trans e.symm)
      rw [qq_be_inj hd hb h3]
    · exact absurd e (hn b hb)
  · rcases g with ⟨d, hd, f, rfl⟩ | ⟨rfl, _⟩
    · exact absurd f (hn d hd)
    · rfl
theorem qq_or_y {p : qp_T} {v r : Int32} {c : Nat} (h : nI (qq_be p c) = v) : qq_or p v (c + 1) (nI c) := Or.inl ⟨c, by omega, h, rfl⟩
theorem qq_or_n {p : qp_T} {v r : Int32} {c : Nat} (h : ¬ nI (qq_be p c) = v) (g : qq_or p v c r) : qq_or p v (c + 1) r := by
  rcases g with ⟨b, hb, e, f⟩ | ⟨f, hn⟩
  · exact Or.inl ⟨b, by omega, e, f⟩
  · refine Or.inr ⟨f, fun b hb => ?_⟩
    by_cases e : b = c
    · rw [e]; exact h
    · exact hn b (by omega)
section XL
variable {p : qp_T} {mm nw nc : Int32} {sC rU aR vC vS vN jT bG lV oJ oB oL cV wA fR eV cA : Nat → Int32}
theorem xq_bu {post : Int32 → SX → Prop} {s : Nat} (ok : qp_ok p) (Rs : qn_Rs p jT bG lV) (hs : s < 4) (h : post (nI (qq_bs p s (qq_la p))) ((nI (qp_m p)), nw, nc, (qp_SV p), (qp_RU p), (qp_AR p), (qp_VC p), (qp_VS p), (qp_VN p), jT, bG, lV, oJ, oB, oL, cV, wA, fR, eV, cA)) :
    ∀ (d n t : Nat), t + d = 1541 → d < n → wX_busy_18 post (nI s) (nI (qp_m p)) nw nc (qp_SV p) (qp_RU p) (qp_AR p) (qp_VC p) (qp_VS p) (qp_VN p) jT bG lV oJ oB oL cV wA fR eV cA n (nI (qq_bs p s t)) (nI t) := by
  intro d
  induction d with
  | zero =>
    intro n t h1 h2
    obtain ⟨n, rfl⟩ : ∃ m, n = m + 1 := ⟨n - 1, by omega⟩
    rw [wX_busy_18]
    have et : t = 1541 := by omega
    subst et
    have hl := qq_la_le ok
    rw [← qq_bs_z ok (e := 1541) (by omega)] at h
    exact br_t (nI_le (a := 1541) (b := 1541) (by omega) (by omega)) h
  | succ d ih =>
    intro n t h1 h2
    obtain ⟨n, rfl⟩ : ∃ m, n = m + 1 := ⟨n - 1, by omega⟩
    rw [wX_busy_18]
    have I := ih n (t + 1) (by omega) (by omega)
    have l0 := qq_n_lt (p := p) (s := s) (t := t) (kd := 0)
    have l1 := qq_n_lt (p := p) (s := s) (t := t) (kd := 1)
    have ha := qq_n_add p s t
    refine br_f (nI_ge (b := 1541) (by omega) (by decide)) (xq_cp ok Rs hs (by omega) (xq_cw ok Rs hs (by omega) ?_))
    unfold qq_bs at I ⊢
    by_cases g : 0 < qq_n p s t 2
    · rw [qs_cnt_t (decide_eq_true g)] at I
      exact br_f (nI_ge (by omega) (by omega)) (nm_r (nI_1 _) (nm_r (nI_1 t) I))
    · rw [qs_cnt_f (fun z => g (of_decide_eq_true z))] at I
      exact br_t (nI_le (by omega) (by omega)) (nm_r (nI_1 t) I)
theorem xq_lo {post : Int32 → SX → Prop} {s : Nat} (ok : qp_ok p) (Rs : qn_Rs p jT bG lV) (hs : s < 4) (h : post (nI (qq_lo p s (qq_la p))) ((nI (qp_m p)), nw, nc, (qp_SV p), (qp_RU p), (qp_AR p), (qp_VC p), (qp_VS p), (qp_VN p), jT, bG, lV, oJ, oB, oL, cV, wA, fR, eV, cA)) :
    ∀ (d n t : Nat), t + d = 1541 → d < n → wX_longest_18 post (nI s) (nI (qp_m p)) nw nc (qp_SV p) (qp_RU p) (qp_AR p) (qp_VC p) (qp_VS p) (qp_VN p) jT bG lV oJ oB oL cV wA fR eV cA n (nI (qq_lo p s t)) (nI t) := by
  intro d
  induction d with
  | zero =>
    intro n t h1 h2
    obtain ⟨n, rfl⟩ : ∃ m, n = m + 1 := ⟨n - 1, by omega⟩
    rw [wX_longest_18]
    have et : t = 1541 := by omega
    subst et
    have hl := qq_la_le ok
    rw [← qq_lo_z ok (e := 1541) (by omega)] at h
    exact br_t (nI_le (a := 1541) (b := 1541) (by omega) (by omega)) h
  | succ d ih =>
    intro n t h1 h2
    obtain ⟨n, rfl⟩ : ∃ m, n = m + 1 := ⟨n - 1, by omega⟩
    rw [wX_longest_18]
    have I := ih n (t + 1) (by omega) (by omega)
    have l1 := qq_n_lt (p := p) (s := s) (t := t) (kd := 1)
    have l2 : qq_lo p s t ≤ 48 := qq_mx_le (fun _ _ => qq_n_lt)
    refine br_f (nI_ge (b := 1541) (by omega) (by decide)) (xq_cw ok Rs hs (by omega) ?_)
    unfold qq_lo at I l2 ⊢
    rw [qq_mx_s] at I
    by_cases g : qq_mx (fun t => qq_n p s t 1) t < qq_n p s t 1
    · rw [if_pos g] at I
      exact br_f (nI_ge g (by omega)) (nm_r (nI_1 t) I)
    · rw [if_neg g] at I
      exact br_t (nI_le (by omega) (by omega)) (nm_r (nI_1 t) I)
theorem xq_la {post : Int32 → SX → Prop} (ok : qp_ok p) (Rs : qn_Rs p jT bG lV) (h : post (nI (qq_la p)) ((nI (qp_m p)), nw, nc, (qp_SV p), (qp_RU p), (qp_AR p), (qp_VC p), (qp_VS p), (qp_VN p), jT, bG, lV, oJ, oB, oL, cV, wA, fR, eV, cA)) :
    ∀ (d n c : Nat), c + d = qp_m p → d < n → wX_last_9 post (nI (qp_m p)) nw nc (qp_SV p) (qp_RU p) (qp_AR p) (qp_VC p) (qp_VS p) (qp_VN p) jT bG lV oJ oB oL cV wA fR eV cA n (nI (qq_mx (qq_L p) c)) (nI c) := by
  have hm := ok.1
  intro d
  induction d with
  | zero =>
    intro n c h1 h2
    obtain ⟨n, rfl⟩ : ∃ m, n = m + 1 := ⟨n - 1, by omega⟩
    rw [wX_last_9]
    have ec : c = qp_m p := by omega
    subst ec
    exact br_t (nI_le (by omega) (by omega)) h
  | succ d ih =>
    intro n c h1 h2
    obtain ⟨n, rfl⟩ : ∃ m, n = m + 1 := ⟨n - 1, by omega⟩
    rw [wX_last_9]
    have hc : c < qp_m p := by omega
    have I := ih n (c + 1) (by omega) (by omega)
    have ec : (nI c).toNatClampNeg = c := nI_clamp (by omega)
    have wc : vp_in (nI c) 12 := vp_in_nI (by omega) (by omega)
    have lc : qq_L p c ≤ 1540 := (qn_R_f ok hc).1
    have lm : qq_mx (qq_L p) c ≤ 1540 := qq_mx_le (fun b hb => (qn_R_f ok (by omega)).1)
    refine br_f (nI_ge hc (by omega)) ⟨wc, ?_⟩
    rw [ec, qq_RL Rs hc]
    rw [qq_mx_s] at I
    by_cases g : qq_mx (qq_L p) c < qq_L p c
    · rw [if_pos g] at I
      exact br_f (nI_ge g (by omega)) ⟨wc, nm_e (nm_r (nI_1 c) I)⟩
    · rw [if_neg g] at I
      exact br_t (nI_le (by omega) (by omega)) (nm_r (nI_1 c) I)
theorem xq_or {post : Int32 → SX → Prop} {v : Int32} (ok : qp_ok p) (Rs : qn_Rs p jT bG lV) (h : ∀ r, qq_or p v (qp_m p) r → post r ((nI (qp_m p)), nw, nc, (qp_SV p), (qp_RU p), (qp_AR p), (qp_VC p), (qp_VS p), (qp_VN p), jT, bG, lV, oJ, oB, oL, cV, wA, fR, eV, cA)) :
    ∀ (d n c : Nat) (r : Int32), c + d = qp_m p → d < n → qq_or p v c r → wX_order_19 post v (nI (qp_m p)) nw nc (qp_SV p) (qp_RU p) (qp_AR p) (qp_VC p) (qp_VS p) (qp_VN p) jT bG lV oJ oB oL cV wA fR eV cA n r (nI c) := by
  have hm := ok.1
  intro d
  induction d with
  | zero =>
    intro n c r h1 h2 h3
    obtain ⟨n, rfl⟩ : ∃ m, n = m + 1 := ⟨n - 1, by omega⟩
    rw [wX_order_19]
    have ec : c = qp_m p := by omega
    subst ec
    exact br_t (nI_le (by omega) (by omega)) (h r h3)
  | succ d ih =>
    intro n c r h1 h2 h3
    obtain ⟨n, rfl⟩ : ∃ m, n = m + 1 := ⟨n - 1, by omega⟩
    rw [wX_order_19]
    have hc : c < qp_m p := by omega
    refine br_f (nI_ge hc (by omega)) (xq_lb ok Rs hc ?_)
    by_cases g : nI (qq_be p c) = v
    · exact br_t g (nm_r (nI_1 c) (ih n (c + 1) _ (by omega) (by omega) (qq_or_y (r := r) g)))
    · exact br_f g (nm_r (nI_1 c) (ih n (c + 1) _ (by omega) (by omega) (qq_or_n g h3)))
theorem xl_k40 {post : SX → Prop} (h : ∀ ol, (∀ c, c < 12 → ol c = lV c) → post (mm, nw, nc, sC, rU, aR, vC, vS, vN, jT, bG, lV, oJ, oB, ol, cV, wA, fR, eV, cA)) :
    ∀ (d n c : Nat) (ol : Nat → Int32), c + d = 12 → d < n → (∀ b, b < c → ol b = lV b) → wX_keepAsOther_40 post mm nw nc n (nI c) sC rU aR vC vS vN jT bG lV oJ oB ol cV wA fR eV cA := by
  intro d
  induction d with
  | zero =>
    intro n c ol h1 h2 h3
    obtain ⟨n, rfl⟩ : ∃ m, n = m + 1 := ⟨n - 1, by omega⟩
    rw [wX_keepAsOther_40]
    exact br_t (nI_le (a := 12) (by omega) (by omega)) (h ol (fun b hb => h3 b (by omega)))
  | succ d ih =>
    intro n c ol h1 h2 h3
    obtain ⟨n, rfl⟩ : ∃ m, n = m + 1 := ⟨n - 1, by omega⟩
    rw [wX_keepAsOther_40]
    have ec : (nI c).toNatClampNeg = c := nI_clamp (by omega)
    have wc : vp_in (nI c) 12 := vp_in_nI (by omega) (by omega)
    refine br_f (nI_ge (b := 12) (by omega) (by decide)) ⟨wc, wc, nm_r (e' := upd ol c (lV c)) (by rw [ec]) (nm_r (nI_1 c) (ih n (c + 1) _ (by omega) (by omega) (fun b hb => ?_)))⟩
    by_cases f : b = c
    · rw [f, pk_us]
    · rw [pk_un f]; exact h3 b (by omega)
theorem xl_k2 {post : SX → Prop} (h : ∀ oj ob, (∀ i, i < 48 → oj i = jT i) → (∀ i, i < 48 → ob i = bG i) → ∃ n, wX_keepAsOther_40 post mm nw nc n 0 sC rU aR vC vS vN jT bG lV oj ob oL cV wA fR eV cA) :
    ∀ (d n c : Nat) (oj ob : Nat → Int32), c + d = 48 → d < n → (∀ b, b < c → oj b = jT b) → (∀ b, b < c → ob b = bG b) → wX_keepAsOther_2 post mm nw nc n (nI c) sC rU aR vC vS vN jT bG lV oj ob oL cV wA fR eV cA := by
  intro d
  induction d with
  | zero =>
    intro n c oj ob h1 h2 h3 h4
    obtain ⟨n, rfl⟩ : ∃ m, n = m + 1 := ⟨n - 1, by omega⟩
    rw [wX_keepAsOther_2]
    exact br_t (nI_le (a := 48) (by omega) (by omega)) (h oj ob (fun b hb => h3 b (by omega)) (fun b hb => h4 b (by omega)))
  | succ d ih =>
    intro n c oj ob h1 h2 h3 h4
    obtain ⟨n, rfl⟩ : ∃ m, n = m + 1 := ⟨n - 1, by omega⟩
    rw [wX_keepAsOther_2]
    have ec : (nI c).toNatClampNeg = c := nI_clamp (by omega)
    have wc : vp_in (nI c) 48 := vp_in_nI (by omega) (by omega)
    refine br_f (nI_ge (b := 48) (by omega) (by decide)) ⟨wc, wc, nm_r (e' := upd oj c (jT c)) (by rw [ec]) ⟨wc, wc, nm_r (e' := upd ob c (bG c)) (by rw [ec]) (nm_r (nI_1 c) (ih n (c + 1) _ _ (by omega) (by omega) (fun b hb => ?_) (fun b hb => ?_)))⟩⟩
    · by_cases f : b = c
      · rw [f, pk_us]
      · rw [pk_un f]; exact h3 b (by omega)
    · by_cases f : b = c
      · rw [f, pk_us]
      · rw [pk_un f]; exact h4 b (by omega)
theorem xl_ka {post : SX → Prop} (ok : qp_ok p) (Rs : qn_Rs p jT bG lV) (h : ∀ oj ob ol, qn_Rs p oj ob ol → post ((nI (qp_m p)), nw, nc, (qp_SV p), (qp_RU p), (qp_AR p), (qp_VC p), (qp_VS p), (qp_VN p), jT, bG, lV, oj, ob, ol, cV, wA, fR, eV, cA)) : wpX_keepAsOther post ((nI (qp_m p)), nw, nc, (qp_SV p), (qp_RU p), (qp_AR p), (qp_VC p), (qp_VS p), (qp_VN p), jT, bG, lV, oJ, oB, oL, cV, wA, fR, eV, cA) := by
  have hm := ok.1
  refine ⟨49, xl_k2 (fun oj ob ej eb => ⟨13, xl_k40 (fun ol el => h oj ob ol (fun c hc => ?_)) 12 13 0 oL (by omega) (by omega) (fun b hb => absurd hb (by omega))⟩) 48 49 0 oJ oB (by omega) (by omega) (fun b hb => absurd hb (by omega)) (fun b hb => absurd hb (by omega))⟩
  have hv := (ok.2.2 c hc).2.1
  obtain ⟨r1, r2⟩ := Rs c hc
  refine ⟨by rw [el c (by omega)]; exact r1, fun k hk => ?_⟩
  rw [ej _ (by omega), eb _ (by omega)]
  exact r2 k hk
theorem xl_i29 {post : Int32 → Prop} {J2 : _} {c : Nat} (ok : qp_ok p) (Rs : qn_Rs p jT bG lV) (Ro : qn_Rs p oJ oB oL) (hc : c < qp_m p) (hJ : J2 (nI (c + 1))) :
    ∀ (d n k : Nat), k + d = qp_vc p c → d < n → wX_isSameAsOther_29 post J2 (nI c) (nI (qp_m p)) nw nc (qp_SV p) (qp_RU p) (qp_AR p) (qp_VC p) (qp_VS p) (qp_VN p) jT bG lV oJ oB oL cV wA fR eV cA n (nI k) := by
  have hm := ok.1
  have hv := (ok.2.2 c hc).2.1
  have e : (nI c).toNatClampNeg = c := nI_clamp (by omega)
  have w : vp_in (nI c) 12 := vp_in_nI (by omega) (by omega)
  intro d
  induction d with
  | zero =>
    intro n k h1 h2
    obtain ⟨n, rfl⟩ : ∃ m, n = m + 1 := ⟨n - 1, by omega⟩
    rw [wX_isSameAsOther_29]
    refine ⟨w, ?_⟩
    rw [e, qp_VCe]
    exact br_t (nI_le (by omega) (by omega)) (nm_r (nI_1 c) hJ)
  | succ d ih =>
    intro n k h1 h2
    obtain ⟨n, rfl⟩ : ∃ m, n = m + 1 := ⟨n - 1, by omega⟩
    rw [wX_isSameAsOther_29]
    refine ⟨w, ?_⟩
    rw [e, qp_VCe]
    have hk : k < qp_vc p c := by omega
    obtain ⟨rj, rb⟩ := qq_RJ Rs hc hk
    obtain ⟨sj, sb⟩ := qq_RJ Ro hc hk
    have ei : (nI (4 * c + k)).toNatClampNeg = 4 * c + k := nI_clamp (by omega)
    have wi : vp_in (nI (4 * c + k)) 48 := vp_in_nI (by omega) (by omega)
    exact br_f (nI_ge hk (by omega)) (xl_vi ⟨wi, wi, br_t (by rw [ei, rj, sj]) ⟨wi, wi, br_t (by rw [ei, rb, sb]) (nm_r (nI_1 k) (ih n (k + 1) (by omega) (by omega)))⟩⟩)
theorem xl_i2 {post : Int32 → Prop} (ok : qp_ok p) (Rs : qn_Rs p jT bG lV) (Ro : qn_Rs p oJ oB oL) (h : post 1) :
    ∀ (d n c : Nat), c + d = qp_m p → d < n → wX_isSameAsOther_2 post (nI (qp_m p)) nw nc (qp_SV p) (qp_RU p) (qp_AR p) (qp_VC p) (qp_VS p) (qp_VN p) jT bG lV oJ oB oL cV wA fR eV cA n (nI c) := by
  have hm := ok.1
  intro d
  induction d with
  | zero =>
    intro n c h1 h2
    obtain ⟨n, rfl⟩ : ∃ m, n = m + 1 := ⟨n - 1, by omega⟩
    rw [wX_isSameAsOther_2]
    exact br_t (nI_le (by omega) (by omega)) h
  | succ d ih =>
    intro n c h1 h2
    obtain ⟨n, rfl⟩ : ∃ m, n = m + 1 := ⟨n - 1, by omega⟩
    rw [wX_isSameAsOther_2]
    have hc : c < qp_m p := by omega
    have e : (nI c).toNatClampNeg = c := nI_clamp (by omega)
    have w : vp_in (nI c) 12 := vp_in_nI (by omega) (by omega)
    exact br_f (nI_ge hc (by omega)) ⟨w, w, br_t (by rw [e, qq_RL Rs hc, qq_RL Ro hc]) ⟨qp_vc p c + 1, xl_i29 ok Rs Ro hc (ih n (c + 1) (by omega) (by omega)) (qp_vc p c) (qp_vc p c + 1) 0 (by omega) (by omega)⟩⟩
theorem xl_sa {post : Int32 → Prop} (ok : qp_ok p) (Rs : qn_Rs p jT bG lV) (Ro : qn_Rs p oJ oB oL) (h : post 1) : wpX_isSameAsOther post ((nI (qp_m p)), nw, nc, (qp_SV p), (qp_RU p), (qp_AR p), (qp_VC p), (qp_VS p), (qp_VN p), jT, bG, lV, oJ, oB, oL, cV, wA, fR, eV, cA) :=
  ⟨qp_m p + 1, xl_i2 ok Rs Ro h (qp_m p) (qp_m p + 1) 0 (by omega) (by omega)⟩
end XL
