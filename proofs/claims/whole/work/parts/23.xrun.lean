theorem qn_pk_s0 {p : qp_T} {S : qn_S} {s c : Nat} (h : ¬ qn_wt p S s c = true) : qn_pk p S s (c + 1) = qn_pk p S s c := by
  rw [qn_pk]
  cases qn_pk p S s c with
  | none => dsimp only; rw [if_neg h]
  | some b => dsimp only; rw [if_neg (fun z => h z.1)]
theorem qn_pk_s1 {p : qp_T} {S : qn_S} {s c : Nat} (h : qn_wt p S s c = true) (e : qn_pk p S s c = none) : qn_pk p S s (c + 1) = some c := by
  rw [qn_pk, e]; dsimp only; rw [if_pos h]
theorem qn_pk_s2 {p : qp_T} {S : qn_S} {s c b : Nat} (h : qn_wt p S s c = true) (e : qn_pk p S s c = some b) (g : qn_gb p (qp_ru p s) S c b = true) : qn_pk p S s (c + 1) = some c := by
  rw [qn_pk, e]; dsimp only; rw [if_pos ⟨h, g⟩]
theorem qn_pk_s3 {p : qp_T} {S : qn_S} {s c b : Nat} (e : qn_pk p S s c = some b) (g : ¬ qn_gb p (qp_ru p s) S c b = true) : qn_pk p S s (c + 1) = some b := by
  rw [qn_pk, e]; dsimp only; rw [if_neg (fun z => g z.2)]
theorem xl_c4 (c k : Nat) : nI c * 4 + nI k = nI (4 * c + k) := by
  rw [show (4 : Int32) = nI 4 from rfl, pk_mul, nI_add, Nat.mul_comm]
section XR
variable {p : qp_T} {mm nw nc : Int32} {sC rU aR vC vS vN jT bG lV oJ oB oL cV wA fR eV cA : Nat → Int32}
theorem xl_h41 {post : SX → Prop} {t c k : Nat} (hc : c < 12) (hk : k ≤ qp_vc p c) (hv : qp_vc p c ≤ 4) (ec : cV c = nI (4 * c + k)) (h1 : k = qp_vc p c → post ((nI (qp_m p)), nI t, nc, (qp_SV p), (qp_RU p), (qp_AR p), (qp_VC p), (qp_VS p), (qp_VN p), jT, bG, upd lV c (nI t), oJ, oB, oL, cV, wA, fR, eV, cA))
    (h2 : k ≠ qp_vc p c → post ((nI (qp_m p)), nI t, nc, (qp_SV p), (qp_RU p), (qp_AR p), (qp_VC p), (qp_VS p), (qp_VN p), upd jT (4 * c + k) (nI t), bG, lV, oJ, oB, oL, cV, upd wA c (nI (qp_vs p (4 * c + k))), fR, eV, cA)) : wX_happen_41 post (nI c) (nI (qp_m p)) (nI t) nc (qp_SV p) (qp_RU p) (qp_AR p) (qp_VC p) (qp_VS p) (qp_VN p) jT bG lV oJ oB oL cV wA fR eV cA := by
  have w : vp_in (nI c) 12 := vp_in_nI hc (by omega)
  have e : (nI c).toNatClampNeg = c := nI_clamp (by omega)
  refine ⟨w, nm_r (e' := nI (4 * c + k)) (by rw [e, ec]) ⟨w, ?_⟩⟩
  have er : nI c * 4 + qp_VC p (nI c).toNatClampNeg = nI (4 * c + qp_vc p c) := by rw [e, qp_VCe, xl_c4]
  show (nI (4 * c + k) = nI c * 4 + qp_VC p (nI c).toNatClampNeg → _) ∧ (¬ nI (4 * c + k) = nI c * 4 + qp_VC p (nI c).toNatClampNeg → _)
  rw [er]
  have e4 : (nI (4 * c + k)).toNatClampNeg = 4 * c + k := nI_clamp (by omega)
  by_cases g : k = qp_vc p c
  · exact br_t (by rw [g]) ⟨w, nm_r (e' := upd lV c (nI t)) (by rw [e]) (h1 g)⟩
  · have w4 : vp_in (nI (4 * c + k)) 48 := vp_in_nI (by omega) (by omega)
    exact br_f (fun z => g (by have := (nI_eq (by omega) (by omega)).mp z; omega)) ⟨w4, nm_r (e' := upd jT (4 * c + k) (nI t)) (by rw [e4]) ⟨w4, w, nm_r (e' := upd wA c (nI (qp_vs p (4 * c + k)))) (by rw [e, e4, qp_VSe]) (h2 g)⟩⟩
theorem xl_ha {post : SX → Prop} {t c : Nat} {S : qn_S} (ok : qp_ok p) (K : qn_Ka p t S) (hc : c < qp_m p) (hh : qn_hs S c = true) (R : qx_R p S cV wA fR jT bG lV)
    (h : ∀ cv wa fr jt lv, qx_R p (qn_ev p t (qn_one c) S) cv wa fr jt bG lv → post ((nI (qp_m p)), nI t, nc, (qp_SV p), (qp_RU p), (qp_AR p), (qp_VC p), (qp_VS p), (qp_VN p), jt, bG, lv, oJ, oB, oL, cv, wa, fr, eV, cA)) : wpX_happen post ((nI (qp_m p)), nI t, nc, (qp_SV p), (qp_RU p), (qp_AR p), (qp_VC p), (qp_VS p), (qp_VN p), jT, bG, lV, oJ, oB, oL, cV, wA, fR, eV, cA) (nI (qn_mk S c)) := by
  have hm := ok.1
  have hv := (ok.2.2 c hc).2.1
  have wf := (K c hc).1
  have hn := qn_nk_le wf hh
  have hmk := qn_mk_lt (S := S) (c := c) (by omega)
  have em : nI (qn_mk S c) - nI (qn_mk S c) / 16 * 16 = nI c := by
    rw [show (16 : Int32) = nI 16 from rfl, pk_rem (by omega) (by omega) (by omega), hmk.2]
  have ecv := R.1 c hc
  have G : ∀ cv fr, (∀ d, d < qp_m p → cv d = if d = c then nI (4 * c + qn_nk S c) else cV d) → (∀ s, s < 4 → fr s = if qn_ph S c = 2 ∧ qp_vs p (qn_v S c) = s then fR s + 1 else fR s) → wX_happen_41 post (nI c) (nI (qp_m p)) (nI t) nc (qp_SV p) (qp_RU p) (qp_AR p) (qp_VC p) (qp_VS p) (qp_VN p) jT bG lV oJ oB oL cv wA fr eV cA := by
    intro cv fr h1 h2
    refine xl_h41 (by omega) hn hv (by rw [h1 c hc, if_pos rfl]) (fun g => h _ _ _ _ _ (qx_R_ev hc wf hh hv R h1 (fun d hd => ?_) h2 (fun _ _ _ _ _ => rfl) (fun z => absurd g z) (fun d hd z => pk_un (fun y => z ⟨y, g⟩)) (fun _ => pk_us))) (fun g => h _ _ _ _ _ (qx_R_ev hc wf hh hv R h1 (fun d hd => ?_) h2 (fun d k hd hk z => pk_un (fun y => z ?_)) (fun _ => pk_us) (fun _ _ _ => rfl) (fun z => absurd z g)))
    · rw [if_neg (fun z => z.2 g)]
    · by_cases e : d = c
      · rw [e, pk_us, if_pos ⟨rfl, g⟩]
      · rw [pk_un e, if_neg (fun z => e z.1)]
    · have e : d = c := by omega
      exact ⟨e, g, by omega⟩
  refine ⟨by decide, nm_r em ?_⟩
  rcases qn_hs_iff.mp hh with e0 | e2
  · have emk : qn_mk S c = 16 + c := by unfold qn_mk; rw [if_pos e0]
    rw [emk]
    refine br_t (nI_le (a := 16) (by omega) (by omega)) (G _ _ (fun d hd => ?_) (fun s hs => ?_))
    · by_cases e : d = c
      · rw [if_pos e, e, ecv, qn_nk_0 e0]; rfl
      · rw [if_neg e]
    · rw [if_neg (fun z => by have := z.1; omega)]
  · have emk : qn_mk S c = c := by unfold qn_mk; rw [if_neg (by omega)]
    rw [emk]
    have hcu := qn_cu4 ok K hc (Or.inr e2)
    have hvs : qp_vs p (qn_v S c) < 4 := ((ok.2.2 c hc).2.2 _ hcu.1).1
    have hv48 : qn_v S c < 48 := by unfold qn_v; omega
    have w : vp_in (nI c) 12 := vp_in_nI (by omega) (by omega)
    have e : (nI c).toNatClampNeg = c := nI_clamp (by omega)
    have e3 : cV (nI c).toNatClampNeg = nI (qn_v S c) := by rw [e, ecv]
    have e4 : (nI (qn_v S c)).toNatClampNeg = qn_v S c := nI_clamp (by omega)
    have e5 : qp_VS p (cV (nI c).toNatClampNeg).toNatClampNeg = nI (qp_vs p (qn_v S c)) := by rw [e3, e4, qp_VSe]
    have e6 : (nI (qp_vs p (qn_v S c))).toNatClampNeg = qp_vs p (qn_v S c) := nI_clamp (by omega)
    have w3 : vp_in (cV (nI c).toNatClampNeg) 48 := by rw [e3]; exact vp_in_nI hv48 (by omega)
    have w5 : vp_in (qp_VS p (cV (nI c).toNatClampNeg).toNatClampNeg) 4 := by rw [e5]; exact vp_in_nI hvs (by omega)
    refine br_f (nI_ge (b := 16) (by omega) (by decide)) ⟨w, w3, w5, w5, nm_r (e' := upd fR (qp_vs p (qn_v S c)) (fR (qp_vs p (qn_v S c)) + 1)) (by rw [e5, e6]) ⟨w, w, nm_r (e' := upd cV c (nI (4 * c + qn_nk S c))) (by rw [e3, e, nI_1, qn_nk_2 e2]; rfl) (G _ _ (fun d hd => ?_) (fun s hs => ?_))⟩⟩
    · by_cases f : d = c
      · rw [if_pos f, f, pk_us]
      · rw [if_neg f, pk_un f]
    · by_cases f : qp_vs p (qn_v S c) = s
      · rw [if_pos ⟨e2, f⟩, ← f, pk_us]
      · rw [if_neg (fun z => f z.2), pk_un (fun z => f z.symm)]
theorem xl_gb {post : Int32 → Prop} {r t s c b : Nat} {S : qn_S} (ok : qp_ok p) (K : qn_Ka p t S) (ht : t < 2001) (hc : c < qp_m p) (hb : b < qp_m p) (wc : qn_wt p S s c = true) (wb : qn_wt p S s b = true) (hr : r ≤ 2) (R : qx_R p S cV wA fR jT bG lV)
    (h1 : qn_gb p r S c b = true → post 1) (h0 : ¬ qn_gb p r S c b = true → post 0) : wpX_goesBefore post ((nI (qp_m p)), nw, nc, (qp_SV p), (qp_RU p), (qp_AR p), (qp_VC p), (qp_VS p), (qp_VN p), jT, bG, lV, oJ, oB, oL, cV, wA, fR, eV, cA) (nI r) (nI c) (nI b) := by
  have hm := ok.1
  obtain ⟨j1, j2, j3, j4, j5, j6⟩ := qx_jt ok K R.2.2.2 hc wc
  obtain ⟨i1, i2, i3, i4, i5, i6⟩ := qx_jt ok K R.2.2.2 hb wb
  have ec : (nI c).toNatClampNeg = c := nI_clamp (by omega)
  have eb : (nI b).toNatClampNeg = b := nI_clamp (by omega)
  have evc : (nI (qn_v S c)).toNatClampNeg = qn_v S c := nI_clamp (by omega)
  have evb : (nI (qn_v S b)).toNatClampNeg = qn_v S b := nI_clamp (by omega)
  have wvc : vp_in (nI (qn_v S c)) 48 := vp_in_nI j3 (by omega)
  have wvb : vp_in (nI (qn_v S b)) 48 := vp_in_nI i3 (by omega)
  refine ⟨vp_in_nI (by omega) (by omega), nm_r (e' := nI (qn_v S c)) (by rw [ec, R.1 c hc]) ⟨vp_in_nI (by omega) (by omega), nm_r (e' := nI (qn_v S b)) (by rw [eb, R.1 b hb]) ?_⟩⟩
  unfold qn_gb at h1 h0
  have G : (decide (qn_J S (qn_v S c) < qn_J S (qn_v S b)) = true → post 1) → (¬ decide (qn_J S (qn_v S c) < qn_J S (qn_v S b)) = true → post 0) → wX_goesBefore_65 post (nI (qn_v S c)) (nI (qn_v S b)) (nI (qp_m p)) nw nc (qp_SV p) (qp_RU p) (qp_AR p) (qp_VC p) (qp_VS p) (qp_VN p) jT bG lV oJ oB oL cV wA fR eV cA := by
    intro g1 g0
    refine ⟨wvc, wvb, ?_⟩
    by_cases g : qn_J S (qn_v S c) < qn_J S (qn_v S b)
    · exact br_f (by rw [evc, evb, j1, i1]; exact nI_ge g (by omega)) (g1 (decide_eq_true g))
    · exact br_t (by rw [evc, evb, j1, i1]; exact nI_le (by omega) (by omega)) (g0 (fun z => g (of_decide_eq_true z)))
  by_cases r1 : r = 1
  · rw [if_pos r1] at h1 h0
    refine br_t (by rw [r1]; rfl) ⟨wvc, wvb, ?_⟩
    by_cases g : qn_J S (qn_v S b) ≤ qn_J S (qn_v S c)
    · exact br_f (by rw [evc, evb, j1, i1]; exact nI_nlt g (by omega)) (h1 (decide_eq_true g))
    · exact br_t (by rw [evc, evb, j1, i1]; exact nI_lt (by omega) (by omega)) (h0 (fun z => g (of_decide_eq_true z)))
  · rw [if_neg r1] at h1 h0
    refine br_f (fun z => r1 ((nI_eq (b := 1) (by omega) (by omega)).mp z)) ?_
    by_cases r0 : r = 0
    · rw [if_pos (Or.inl r0)] at h1 h0
      exact br_t (by rw [r0]; rfl) (G h1 h0)
    · refine br_f (fun z => r0 ((nI_eq (b := 0) (by omega) (by omega)).mp z)) ⟨wvc, wvb, ?_⟩
      by_cases f : qp_vn p (qn_v S c) = qp_vn p (qn_v S b)
      · rw [if_pos (Or.inr f)] at h1 h0
        exact br_t (by rw [evc, evb, qp_VNe, qp_VNe, f]) (G h1 h0)
      · rw [if_neg (fun z => z.elim r0 f)] at h1 h0
        refine br_f (fun z => f (by rw [evc, evb, qp_VNe, qp_VNe] at z; exact (nI_eq (by omega) (by omega)).mp z)) ⟨wvc, wvb, ?_⟩
        by_cases g : qp_vn p (qn_v S c) < qp_vn p (qn_v S b)
        · exact br_f (by rw [evc, evb, qp_VNe, qp_VNe]; exact nI_ge g (by omega)) (h1 (decide_eq_true g))
        · exact br_t (by rw [evc, evb, qp_VNe, qp_VNe]; exact nI_le (by omega) (by omega)) (h0 (fun z => g (of_decide_eq_true z)))
theorem xl_ne_l {post : Int32 → Prop} {t s : Nat} {S : qn_S} (ok : qp_ok p) (K : qn_Ka p t S) (ht : t < 2001) (hs : s < 4) (R : qx_R p S cV wA fR jT bG lV) (h : post (qn_enc (qn_pk p S s (qp_m p)))) :
    ∀ (d n c : Nat), c + d = qp_m p → d < n → wX_nextToServe_4 post (nI s) (nI (qp_m p)) nw nc (qp_SV p) (qp_RU p) (qp_AR p) (qp_VC p) (qp_VS p) (qp_VN p) jT bG lV oJ oB oL cV wA fR eV cA n (qn_enc (qn_pk p S s c)) (nI c) := by
  have hm := ok.1
  intro d
  induction d with
  | zero =>
    intro n c h1 h2
    obtain ⟨n, rfl⟩ : ∃ m, n = m + 1 := ⟨n - 1, by omega⟩
    rw [wX_nextToServe_4]
    have e : c = qp_m p := by omega
    rw [e]
    exact br_t (nI_le (by omega) (by omega)) h
  | succ d ih =>
    intro n c h1 h2
    obtain ⟨n, rfl⟩ : ∃ m, n = m + 1 := ⟨n - 1, by omega⟩
    rw [wX_nextToServe_4]
    have ec : (nI c).toNatClampNeg = c := nI_clamp (by omega)
    have hw := qx_wt ok K (c := c) (by omega) hs (R.2.1 c (by omega))
    have I := ih n (c + 1) (by omega) (by omega)
    refine br_f (nI_ge (by omega) (by omega)) ⟨vp_in_nI (by omega) (by omega), ?_⟩
    by_cases w : qn_wt p S s c = true
    · refine br_t (by rw [ec]; exact hw.mpr w) ?_
      cases e : qn_pk p S s c with
      | none =>
        rw [qn_pk_s1 w e] at I
        exact br_t rfl (nm_r (nI_1 c) I)
      | some b =>
        obtain ⟨hb, wb⟩ := qn_pk_y e
        refine br_f (qn_enc_n b (by omega)) ⟨vp_in_nI hs (by omega), ?_⟩
        have er : qp_RU p (nI s).toNatClampNeg = nI (qp_ru p s) := by rw [nI_clamp (by omega), qp_RUe]
        rw [er]
        refine xl_gb ok K ht (by omega) (by omega) w wb (ok.2.1 s hs).2.2 R (fun g => ?_) (fun g => ?_)
        · rw [qn_pk_s2 w e g] at I
          exact br_f (by decide) (nm_r (nI_1 c) I)
        · rw [qn_pk_s3 e g] at I
          exact br_t rfl (nm_r (nI_1 c) I)
    · rw [qn_pk_s0 w] at I
      exact br_f (fun z => w (hw.mp (by rw [ec] at z; exact z))) (nm_r (nI_1 c) I)
theorem xl_ne {post : Int32 → Prop} {t s : Nat} {S : qn_S} (ok : qp_ok p) (K : qn_Ka p t S) (ht : t < 2001) (hs : s < 4) (R : qx_R p S cV wA fR jT bG lV) (h : post (qn_enc (qn_pk p S s (qp_m p)))) : wpX_nextToServe post ((nI (qp_m p)), nw, nc, (qp_SV p), (qp_RU p), (qp_AR p), (qp_VC p), (qp_VS p), (qp_VN p), jT, bG, lV, oJ, oB, oL, cV, wA, fR, eV, cA) (nI s) :=
  ⟨qp_m p + 1, xl_ne_l ok K ht hs R h (qp_m p) (qp_m p + 1) 0 (by omega) (by omega)⟩
end XR
