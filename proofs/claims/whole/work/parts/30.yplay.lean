section YP
variable {p : qp_T} {jT bG lV nW : Nat → Int32}
theorem yl_en {post : SY → Prop} {t c : Nat} {S : qn_S} (ok : qp_ok p) (K : qn_Ka p t S) (ht : t < 2000) (hc : c < qp_m p) (hh : qn_hs S c = true) (R : qy_R p S nW jT bG lV) (h : ∀ nw jt bg lv, qy_R p (qn_ev p t (qn_one c) S) nw jt bg lv → post ((nI (qp_m p)), (qp_SV p), (qp_RU p), (qp_AR p), (qp_VC p), (qp_VS p), (qp_VN p), jt, bg, lv, nw)) : wpY_enter post ((nI (qp_m p)), (qp_SV p), (qp_RU p), (qp_AR p), (qp_VC p), (qp_VS p), (qp_VN p), jT, bG, lV, nW) (nI c) (nI (qn_nk S c)) (nI t) := by
  sorry
theorem yl_at {post : Int32 → Prop} {t s c : Nat} {S : qn_S} (ok : qp_ok p) (K : qn_Ka p t S) (hs : s < 4) (hc : c < qp_m p) (R : qy_R p S nW jT bG lV) (h1 : (qn_wt p S s c = true ∨ qn_sg p S s c = true) → post 1) (h0 : ¬ (qn_wt p S s c = true ∨ qn_sg p S s c = true) → post 0) : wpY_isAt post ((nI (qp_m p)), (qp_SV p), (qp_RU p), (qp_AR p), (qp_VC p), (qp_VS p), (qp_VN p), jT, bG, lV, nW) (nI c) (nI s) := by
  sorry
theorem yl_wt {post : Int32 → Prop} {t s c : Nat} {S : qn_S} (ok : qp_ok p) (K : qn_Ka p t S) (ht : t < 2000) (hs : s < 4) (hc : c < qp_m p) (R : qy_R p S nW jT bG lV) (h1 : qn_wt p S s c = true → post 1) (h0 : ¬ qn_wt p S s c = true → post 0) : wpY_isWaiting post ((nI (qp_m p)), (qp_SV p), (qp_RU p), (qp_AR p), (qp_VC p), (qp_VS p), (qp_VN p), jT, bG, lV, nW) (nI c) (nI s) := by
  sorry
theorem yl_bt {post : Int32 → Prop} {r t s c b : Nat} {S : qn_S} (ok : qp_ok p) (K : qn_Ka p t S) (ht : t < 2000) (hc : c < qp_m p) (hb : b < qp_m p) (wc : qn_wt p S s c = true) (wb : qn_wt p S s b = true) (hr : r ≤ 2) (R : qy_R p S nW jT bG lV)
    (h1 : qn_gb p r S c b = true → post 1) (h0 : ¬ qn_gb p r S c b = true → post 0) : wpY_better post ((nI (qp_m p)), (qp_SV p), (qp_RU p), (qp_AR p), (qp_VC p), (qp_VS p), (qp_VN p), jT, bG, lV, nW) (nI b) (nI c) (nI r) := by
  sorry
theorem yl_se {post : SY → Prop} {t s : Nat} {S : qn_S} (ok : qp_ok p) (K : qn_Ka p t S) (ht : t < 2000) (hs : s < 4) (R : qy_R p S nW jT bG lV) (h : ∀ bg, qn_Ka p t (qn_fl p t s 3 S) → qy_R p (qn_fl p t s 3 S) nW jT bg lV → post ((nI (qp_m p)), (qp_SV p), (qp_RU p), (qp_AR p), (qp_VC p), (qp_VS p), (qp_VN p), jT, bg, lV, nW)) : wpY_serve post ((nI (qp_m p)), (qp_SV p), (qp_RU p), (qp_AR p), (qp_VC p), (qp_VS p), (qp_VN p), jT, bG, lV, nW) (nI s) (nI t) := by
  sorry
theorem yl_pl {post : SY → Prop} (ok : qp_ok p) (h : ∀ nw jt bg lv, qn_Rs p jt bg lv → post ((nI (qp_m p)), (qp_SV p), (qp_RU p), (qp_AR p), (qp_VC p), (qp_VS p), (qp_VN p), jt, bg, lv, nw)) : wpY_play post ((nI (qp_m p)), (qp_SV p), (qp_RU p), (qp_AR p), (qp_VC p), (qp_VS p), (qp_VN p), jT, bG, lV, nW) := by
  sorry
end YP
