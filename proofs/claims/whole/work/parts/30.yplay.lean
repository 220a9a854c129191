theorem yl_c4 (c k : Nat) : 4 * nI c + nI k = nI (4 * c + k) := by
  rw [show (4 : Int32) = nI 4 from rfl, pk_mul, nI_add]
section YP
variable {p : qp_T} {jT bG lV nW : Nat → Int32}
theorem yl_en {post : SY → Prop} {t r c : Nat} {S : qn_S} (ok : qp_ok p) (K : qn_Ka p r S) (hc : c < qp_m p) (hh : qn_hs S c = true) (R : qy_R p S nW jT bG lV) (h : ∀ nw jt bg lv, qy_R p (qn_ev p t (qn_one c) S) nw jt bg lv → post ((nI (qp_m p)), (qp_SV p), (qp_RU p), (qp_AR p), (qp_VC p), (qp_VS p), (qp_VN p), jt, bg, lv, nw)) : wpY_enter post ((nI (qp_m p)), (qp_SV p), (qp_RU p), (qp_AR p), (qp_VC p), (qp_VS p), (qp_VN p), jT, bG, lV, nW) (nI c) (nI (qn_nk S c)) (nI t) := by
  have hm := ok.1
  have hv := (ok.2.2 c hc).2.1
  have hn := qn_nk_le (K c hc).1 hh
  have e : (nI c).toNatClampNeg = c := nI_clamp (by omega)
  have w : vp_in (nI c) 12 := vp_in_nI (by omega) (by omega)
  refine ⟨w, ?_⟩
  rw [e, qp_VCe]
  by_cases g : qn_nk S c = qp_vc p c
  · exact br_t (by rw [g]) ⟨w, nm_r (e' := upd lV c (nI t)) rfl ⟨w, nm_r (e' := upd nW c (nI 5)) rfl (h _ _ _ _ (qy_R_lv ok K hc hh g R))⟩⟩
  · have e4 : (4 * nI c + nI (qn_nk S c)).toNatClampNeg = 4 * c + qn_nk S c := by rw [yl_c4]; exact nI_clamp (by omega)
    have w4 : vp_in (4 * nI c + nI (qn_nk S c)) 48 := by rw [yl_c4]; exact vp_in_nI (by omega) (by omega)
    exact br_f (fun z => g ((nI_eq (by omega) (by omega)).mp z)) ⟨w, nm_r (e' := upd nW c (nI (qn_nk S c))) rfl ⟨w4, nm_r (e' := upd jT (4 * c + qn_nk S c) (nI t)) (by rw [e4]) ⟨w4, nm_r (e' := upd bG (4 * c + qn_nk S c) (-1)) (by rw [e4]) (h _ _ _ _ (qy_R_jo ok K hc hh g R))⟩⟩⟩
theorem yl_at {post : Int32 → Prop} {t s c : Nat} {S : qn_S} (ok : qp_ok p) (K : qn_Ka p t S) (hs : s < 4) (hc : c < qp_m p) (R : qy_R p S nW jT bG lV) (h1 : (qn_wt p S s c = true ∨ qn_sg p S s c = true) → post 1) (h0 : ¬ (qn_wt p S s c = true ∨ qn_sg p S s c = true) → post 0) : wpY_isAt post ((nI (qp_m p)), (qp_SV p), (qp_RU p), (qp_AR p), (qp_VC p), (qp_VS p), (qp_VN p), jT, bG, lV, nW) (nI c) (nI s) := by
  have hm := ok.1
  have e : (nI c).toNatClampNeg = c := nI_clamp (by omega)
  have w : vp_in (nI c) 12 := vp_in_nI (by omega) (by omega)
  have en : nW (nI c).toNatClampNeg = nI (qy_nw S c) := by rw [e, R.1 c hc]
  rw [qn_wt_iff, qn_sg_iff] at h1 h0
  refine ⟨w, ?_⟩
  rw [en]
  have G : qn_ph S c = 1 ∨ qn_ph S c = 2 → (4 ≤ nI (qy_nw S c) → post 0) ∧ (¬ 4 ≤ nI (qy_nw S c) → (vp_in (nI c) 12 ∧ (vp_in (4 * nI c + nI (qy_nw S c)) 48 ∧ ((qp_VS p (4 * nI c + nI (qy_nw S c)).toNatClampNeg = nI s → post 1) ∧ (¬ qp_VS p (4 * nI c + nI (qy_nw S c)).toNatClampNeg = nI s → post 0))))) := by
    intro a
    have hcu := qn_cu4 ok K hc a
    have hvs : qp_vs p (4 * c + qn_cu S c) < 4 := ((ok.2.2 c hc).2.2 _ hcu.1).1
    rw [qy_nw_i a, yl_c4]
    refine br_f (nI_ge (b := 4) hcu.2 (by decide)) ⟨w, vp_in_nI (by omega) (by omega), ?_⟩
    rw [nI_clamp (by omega), qp_VSe]
    by_cases g : qp_vs p (4 * c + qn_cu S c) = s
    · refine br_t (by rw [g]) (h1 ?_)
      rcases a with a | a
      · exact Or.inl ⟨a, g⟩
      · exact Or.inr ⟨a, g⟩
    · refine br_f (fun z => g ((nI_eq (by omega) (by omega)).mp z)) (h0 (fun z => ?_))
      rcases z with z | z
      · exact g z.2
      · exact g z.2
  rcases (K c hc).1 with ⟨a, b⟩ | ⟨a, b⟩ | ⟨a, b⟩ | ⟨a, b⟩
  · rw [qy_nw_0 a]; exact br_t (nI_le (a := 4) (b := 4) (by omega) (by omega)) (h0 (by omega))
  · exact G (Or.inl a)
  · exact G (Or.inr a)
  · rw [qy_nw_3 a]; exact br_t (nI_le (a := 4) (b := 5) (by omega) (by omega)) (h0 (by omega))
theorem yl_wt {post : Int32 → Prop} {t s c : Nat} {S : qn_S} (ok : qp_ok p) (K : qn_Ka p t S) (ht : t < 2001) (hs : s < 4) (hc : c < qp_m p) (R : qy_R p S nW jT bG lV) (h1 : qn_wt p S s c = true → post 1) (h0 : ¬ qn_wt p S s c = true → post 0) : wpY_isWaiting post ((nI (qp_m p)), (qp_SV p), (qp_RU p), (qp_AR p), (qp_VC p), (qp_VS p), (qp_VN p), jT, bG, lV, nW) (nI c) (nI s) := by
  have hm := ok.1
  unfold wpY_isWaiting
  dsimp only
  refine yl_at ok K hs hc R (fun z => br_f (by decide) ?_) (fun z => br_t rfl (h0 (fun y => z (Or.inl y))))
  have e : (nI c).toNatClampNeg = c := nI_clamp (by omega)
  have w : vp_in (nI c) 12 := vp_in_nI (by omega) (by omega)
  have en : nW (nI c).toNatClampNeg = nI (qy_nw S c) := by rw [e, R.1 c hc]
  have hz : qn_ph S c = 1 ∨ qn_ph S c = 2 := by rw [qn_wt_iff, qn_sg_iff] at z; omega
  have hcu := qn_cu4 ok K hc hz
  refine ⟨w, ?_⟩
  rw [en, qy_nw_i hz, yl_c4]
  refine ⟨vp_in_nI (by omega) (by omega), ?_⟩
  rw [nI_clamp (by omega)]
  rcases z with z | z
  · have a := qn_wt_iff.mp z
    have eb : bG (4 * c + qn_cu S c) = -1 := R.2.1 c hc a.1
    rw [eb]
    exact br_f (by decide) (h1 z)
  · have a := qn_sg_iff.mp z
    have eb : bG (4 * c + qn_cu S c) = nI (qn_B S (4 * c + qn_cu S c)) := (R.2.2 c hc).2.1 _ hcu.2 (Or.inr ⟨rfl, a.1⟩)
    have hB := ((K c hc).2.2.1 _ hcu.2 (Or.inr ⟨rfl, a.1⟩)).2
    rw [eb]
    exact br_t (nI_pos' (by omega)) (h0 (fun y => by have := (qn_wt_iff.mp y).1; omega))
theorem yl_bt {post : Int32 → Prop} {r t s c b : Nat} {S : qn_S} (ok : qp_ok p) (K : qn_Ka p t S) (ht : t < 2001) (hc : c < qp_m p) (hb : b < qp_m p) (wc : qn_wt p S s c = true) (wb : qn_wt p S s b = true) (hr : r ≤ 2) (R : qy_R p S nW jT bG lV)
    (h1 : qn_gb p r S c b = true → post 1) (h0 : ¬ qn_gb p r S c b = true → post 0) : wpY_better post ((nI (qp_m p)), (qp_SV p), (qp_RU p), (qp_AR p), (qp_VC p), (qp_VS p), (qp_VN p), jT, bG, lV, nW) (nI b) (nI c) (nI r) := by
  have hm := ok.1
  obtain ⟨j1, j2, j3, j4, j5, j6⟩ := qx_jt ok K R.2.2 hc wc
  obtain ⟨i1, i2, i3, i4, i5, i6⟩ := qx_jt ok K R.2.2 hb wb
  have ec : (nI c).toNatClampNeg = c := nI_clamp (by omega)
  have eb : (nI b).toNatClampNeg = b := nI_clamp (by omega)
  have nc : 4 * nI c + nW (nI c).toNatClampNeg = nI (qn_v S c) := by rw [ec, R.1 c hc, qy_nw_i (Or.inl (qn_wt_iff.mp wc).1), yl_c4]; rfl
  have nb : 4 * nI b + nW (nI b).toNatClampNeg = nI (qn_v S b) := by rw [eb, R.1 b hb, qy_nw_i (Or.inl (qn_wt_iff.mp wb).1), yl_c4]; rfl
  have evc : (nI (qn_v S c)).toNatClampNeg = qn_v S c := nI_clamp (by omega)
  have evb : (nI (qn_v S b)).toNatClampNeg = qn_v S b := nI_clamp (by omega)
  have wvc : vp_in (nI (qn_v S c)) 48 := vp_in_nI j3 (by omega)
  have wvb : vp_in (nI (qn_v S b)) 48 := vp_in_nI i3 (by omega)
  refine ⟨vp_in_nI (by omega) (by omega), nm_r nb ⟨vp_in_nI (by omega) (by omega), nm_r nc ?_⟩⟩
  unfold qn_gb at h1 h0
  have G : r ≠ 1 → (decide (qn_J S (qn_v S c) < qn_J S (qn_v S b)) = true → post 1) → (¬ decide (qn_J S (qn_v S c) < qn_J S (qn_v S b)) = true → post 0) → wY_better_69 post (nI r) (nI (qn_v S b)) (nI (qn_v S c)) (nI (qp_m p)) (qp_SV p) (qp_RU p) (qp_AR p) (qp_VC p) (qp_VS p) (qp_VN p) jT bG lV nW := by
    intro r1 g1 g0
    refine br_f (fun z => r1 ((nI_eq (b := 1) (by omega) (by omega)).mp z)) ⟨wvc, wvb, ?_⟩
    by_cases g : qn_J S (qn_v S c) < qn_J S (qn_v S b)
    · exact br_f (by rw [evc, evb, j1, i1]; exact nI_ge g (by omega)) (g1 (decide_eq_true g))
    · exact br_t (by rw [evc, evb, j1, i1]; exact nI_le (by omega) (by omega)) (g0 (fun z => g (of_decide_eq_true z)))
  by_cases r1 : r = 1
  · rw [if_pos r1] at h1 h0
    refine br_f (fun z => by have := (nI_eq (b := 2) (by omega) (by omega)).mp z; omega) (br_t (by rw [r1]; rfl) ⟨wvc, wvb, ?_⟩)
    by_cases g : qn_J S (qn_v S b) ≤ qn_J S (qn_v S c)
    · exact br_f (by rw [evc, evb, j1, i1]; exact nI_nlt g (by omega)) (h1 (decide_eq_true g))
    · exact br_t (by rw [evc, evb, j1, i1]; exact nI_lt (by omega) (by omega)) (h0 (fun z => g (of_decide_eq_true z)))
  · rw [if_neg r1] at h1 h0
    by_cases r0 : r = 0
    · rw [if_pos (Or.inl r0)] at h1 h0
      exact br_f (fun z => by have := (nI_eq (b := 2) (by omega) (by omega)).mp z; omega) (G r1 h1 h0)
    · refine br_t (by rw [show r = 2 from by omega]; rfl) ⟨wvb, wvc, ?_⟩
      by_cases f : qp_vn p (qn_v S c) = qp_vn p (qn_v S b)
      · rw [if_pos (Or.inr f)] at h1 h0
        exact br_t (by rw [evc, evb, qp_VNe, qp_VNe, f]) (G r1 h1 h0)
      · rw [if_neg (fun z => z.elim r0 f)] at h1 h0
        refine br_f (fun z => f (by rw [evc, evb, qp_VNe, qp_VNe] at z; exact ((nI_eq (by omega) (by omega)).mp z).symm)) ⟨wvc, wvb, ?_⟩
        by_cases g : qp_vn p (qn_v S c) < qp_vn p (qn_v S b)
        · exact br_f (by rw [evc, evb, qp_VNe, qp_VNe]; exact nI_ge g (by omega)) (h1 (decide_eq_true g))
        · exact br_t (by rw [evc, evb, qp_VNe, qp_VNe]; exact nI_le (by omega) (by omega)) (h0 (fun z => g (of_decide_eq_true z)))
end YP
