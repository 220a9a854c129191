section YS
variable {p : qp_T} {jT bG lV nW : Nat → Int32}
theorem yl_57 {post : SY → Prop} {J2 : _} {J15 : _} {t s c k : Nat} {S : qn_S} {x2 : Int32} (ok : qp_ok p) (K : qn_Ka p t S) (ht : t < 2001) (hs : s < 4) (hc : c < qp_m p) (R : qy_R p S nW jT bG lV) (w : qn_wt p S s c = true) (h : J15 (nI k) (qn_enc (qn_pk p S s (c + 1))) (nI (c + 1))) : wY_serve_57 post J2 J15 (nI s) x2 (qn_enc (qn_pk p S s c)) (nI c) 1 (nI k) (nI (qp_m p)) (qp_SV p) (qp_RU p) (qp_AR p) (qp_VC p) (qp_VS p) (qp_VN p) jT bG lV nW := by
  have hm := ok.1
  refine br_f (by decide) ?_
  cases e : qn_pk p S s c with
  | none =>
    rw [qn_pk_s1 w e] at h
    exact br_t (by decide) (nm_r (nI_1 c) h)
  | some b =>
    obtain ⟨hb, wb⟩ := qn_pk_y e
    refine br_f (qn_enc_l b (by omega)) ⟨vp_in_nI hs (by omega), ?_⟩
    have er : qp_RU p (nI s).toNatClampNeg = nI (qp_ru p s) := by rw [nI_clamp (by omega), qp_RUe]
    rw [er]
    refine yl_bt ok K ht hc (by omega) w wb (ok.2.1 s hs).2.2 R (fun g => ?_) (fun g => ?_)
    · rw [qn_pk_s2 w e g] at h
      exact br_f (by decide) (nm_r (nI_1 c) h)
    · rw [qn_pk_s3 e g] at h
      exact br_t rfl (nm_r (nI_1 c) h)
theorem yl_15 {post : SY → Prop} {J2 : _} {t s : Nat} {S : qn_S} (ok : qp_ok p) (K : qn_Ka p t S) (ht : t < 2001) (hs : s < 4) (R : qy_R p S nW jT bG lV) (hb : qn_bl p S s → J2 0 (qp_SV p) (qp_RU p) (qp_AR p) (qp_VC p) (qp_VS p) (qp_VN p) jT bG lV nW) (hg : ∀ c, qn_nsg p S s < qp_sv p s → qn_pk p S s (qp_m p) = some c → J2 1 (qp_SV p) (qp_RU p) (qp_AR p) (qp_VC p) (qp_VS p) (qp_VN p) jT (upd bG (qn_v S c) (nI t)) lV nW) :
    ∀ (d n c : Nat), c + d = qp_m p → d < n → wY_serve_15 post J2 (nI s) (nI t) (nI (qp_m p)) (qp_SV p) (qp_RU p) (qp_AR p) (qp_VC p) (qp_VS p) (qp_VN p) jT bG lV nW n (nI (qs_cnt (qn_sg p S s) c)) (qn_enc (qn_pk p S s c)) (nI c) := by
  have hm := ok.1
  have hsv := (ok.2.1 s hs).2.1
  intro d
  induction d with
  | zero =>
    intro n c h1 h2
    obtain ⟨n, rfl⟩ : ∃ m, n = m + 1 := ⟨n - 1, by omega⟩
    rw [wY_serve_15]
    have ec : c = qp_m p := by omega
    subst ec
    refine br_t (nI_le (by omega) (by omega)) ?_
    cases e : qn_pk p S s (qp_m p) with
    | none => exact br_t (by decide) (br_t rfl (hb (fun _ => e)))
    | some c =>
      obtain ⟨hc, hw⟩ := qn_pk_y e
      rw [qn_wt_iff] at hw
      have hcu := qn_cu4 ok K hc (Or.inl hw.1)
      have hle := qs_cnt_le (qn_sg p S s) (qp_m p)
      have es : qp_SV p (nI s).toNatClampNeg = nI (qp_sv p s) := by rw [nI_clamp (by omega), qp_SVe]
      refine br_f (qn_enc_l c (by omega)) ⟨vp_in_nI hs (by omega), ?_⟩
      rw [es]
      by_cases g : qn_nsg p S s < qp_sv p s
      · have g' : qs_cnt (qn_sg p S s) (qp_m p) < qp_sv p s := g
        have ec : (nI c).toNatClampNeg = c := nI_clamp (by omega)
        have nv : 4 * nI c + nW (nI c).toNatClampNeg = nI (qn_v S c) := by rw [ec, R.1 c hc, qy_nw_i (Or.inl hw.1), yl_c4]; rfl
        have hv48 : qn_v S c < 48 := by unfold qn_v; omega
        refine br_f (nI_ge g' (by omega)) (br_f (by decide) ⟨vp_in_nI (by omega) (by omega), ?_⟩)
        show vp_in (4 * nI c + nW (nI c).toNatClampNeg) 48 ∧ _
        rw [show qn_enc (some c) = nI c from rfl, nv, nI_clamp (by omega)]
        exact ⟨vp_in_nI hv48 (by omega), nm_e (hg c g e)⟩
      · have g' : ¬ qs_cnt (qn_sg p S s) (qp_m p) < qp_sv p s := g
        exact br_t (nI_le (by omega) (by omega)) (br_t rfl (hb (fun z => absurd z g)))
  | succ d ih =>
    intro n c h1 h2
    obtain ⟨n, rfl⟩ : ∃ m, n = m + 1 := ⟨n - 1, by omega⟩
    rw [wY_serve_15]
    have hc : c < qp_m p := by omega
    have I := ih n (c + 1) (by omega) (by omega)
    refine br_f (nI_ge (by omega) (by omega)) (yl_wt ok K ht hs hc R (fun w => ?_) (fun w => ?_))
    · have ns : ¬ qn_sg p S s c = true := fun z => by have := (qn_wt_iff.mp w).1; have := (qn_sg_iff.mp z).1; omega
      rw [qs_cnt_f ns] at I
      exact yl_at ok K hs hc R (fun _ => br_f (by decide) (br_f (by decide) (yl_57 ok K ht hs hc R w I))) (fun z => absurd (Or.inl w) z)
    · rw [qn_pk_s0 w] at I
      refine yl_at ok K hs hc R (fun z => ?_) (fun z => ?_)
      · have sg : qn_sg p S s c = true := z.elim (fun y => absurd y w) id
        rw [qs_cnt_t sg] at I
        rw [nI_1]
        exact br_f (by decide) (br_t rfl (br_t rfl (nm_r (nI_1 c) I)))
      · have ns : ¬ qn_sg p S s c = true := fun y => z (Or.inr y)
        rw [qs_cnt_f ns] at I
        exact br_t rfl (br_t rfl (nm_r (nI_1 c) I))
theorem yl_se_l {post : SY → Prop} {t s : Nat} {F : qn_S} (ok : qp_ok p) (ht : t < 2001) (hs : s < 4) (h : ∀ bg, qn_Ka p t F → qy_R p F nW jT bg lV → post ((nI (qp_m p)), (qp_SV p), (qp_RU p), (qp_AR p), (qp_VC p), (qp_VS p), (qp_VN p), jT, bg, lV, nW)) :
    ∀ (d n : Nat) (S : qn_S) (bg : Nat → Int32), d + 1 < n → qp_sv p s ≤ qn_nsg p S s + d → qn_fl p t s d S = F → qn_Ka p t S → qy_R p S nW jT bg lV → wY_serve_2 post (nI s) (nI t) (nI (qp_m p)) n 1 (qp_SV p) (qp_RU p) (qp_AR p) (qp_VC p) (qp_VS p) (qp_VN p) jT bg lV nW := by
  have hm := ok.1
  intro d
  induction d with
  | zero =>
    intro n S bg h1 h2 h3 K R
    obtain ⟨n, rfl⟩ : ∃ m, n = m + 2 := ⟨n - 2, by omega⟩
    rw [wY_serve_2]
    have eF : S = F := h3
    subst eF
    refine br_f (by decide) ⟨qp_m p + 1, yl_15 ok K ht hs R (fun _ => ?_) (fun c g _ => absurd g (by omega)) (qp_m p) (qp_m p + 1) 0 (by omega) (by omega)⟩
    rw [wY_serve_2]
    exact br_t rfl (h bg K R)
  | succ d ih =>
    intro n S bg h1 h2 h3 K R
    obtain ⟨n, rfl⟩ : ∃ m, n = m + 2 := ⟨n - 2, by omega⟩
    rw [wY_serve_2]
    refine br_f (by decide) ⟨qp_m p + 1, yl_15 ok K ht hs R (fun b => ?_) (fun c g e => ?_) (qp_m p) (qp_m p + 1) 0 (by omega) (by omega)⟩
    · have eF : S = F := by rw [← h3, qn_fl_b b]
      subst eF
      rw [wY_serve_2]
      exact br_t rfl (h bg K R)
    · obtain ⟨hc, hw⟩ := qn_pk_y e
      rw [qn_wt_iff] at hw
      have hcu := qn_cu4 ok K hc (Or.inl hw.1)
      refine ih (n + 1) (qn_beg t S c) _ (by omega) ?_ (by rw [← h3, qn_fl_s g e]) (fun b hb => qn_K_beg (ok.2.2 c hc).2.1 hw.1 hcu.1 (K b hb)) (qy_R_beg ok K hc hw.1 R)
      rw [qn_nsg_beg hc hw.1 hw.2]
      omega
theorem yl_se {post : SY → Prop} {t s : Nat} {S : qn_S} (ok : qp_ok p) (K : qn_Ka p t S) (ht : t < 2001) (hs : s < 4) (R : qy_R p S nW jT bG lV) (h : ∀ bg, qn_Ka p t (qn_fl p t s 3 S) → qy_R p (qn_fl p t s 3 S) nW jT bg lV → post ((nI (qp_m p)), (qp_SV p), (qp_RU p), (qp_AR p), (qp_VC p), (qp_VS p), (qp_VN p), jT, bg, lV, nW)) : wpY_serve post ((nI (qp_m p)), (qp_SV p), (qp_RU p), (qp_AR p), (qp_VC p), (qp_VS p), (qp_VN p), jT, bG, lV, nW) (nI s) (nI t) :=
  ⟨5, yl_se_l ok ht hs h 3 5 S bG (by omega) (by have := (ok.2.1 s hs).2.1; omega) rfl K R⟩
end YS
