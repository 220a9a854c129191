section XA
variable {p : qp_T} {mm nw nc : Int32} {sC rU aR vC vS vN jT bG lV oJ oB oL cV wA fR eV cA : Nat → Int32}
theorem xq_cp {post : Int32 → Prop} {s t : Nat} (ok : qp_ok p) (Rs : qn_Rs p jT bG lV) (hs : s < 4) (ht : t ≤ 10000) (h : post (nI (qq_n p s t 0))) : wpX_countPresent post ((nI (qp_m p)), nw, nc, (qp_SV p), (qp_RU p), (qp_AR p), (qp_VC p), (qp_VS p), (qp_VN p), jT, bG, lV, oJ, oB, oL, cV, wA, fR, eV, cA) (nI s) (nI t) := by
  sorry
theorem xq_cw {post : Int32 → Prop} {s t : Nat} (ok : qp_ok p) (Rs : qn_Rs p jT bG lV) (hs : s < 4) (ht : t ≤ 10000) (h : post (nI (qq_n p s t 1))) : wpX_countWaiting post ((nI (qp_m p)), nw, nc, (qp_SV p), (qp_RU p), (qp_AR p), (qp_VC p), (qp_VS p), (qp_VN p), jT, bG, lV, oJ, oB, oL, cV, wA, fR, eV, cA) (nI s) (nI t) := by
  sorry
theorem xq_ss {post : Int32 → Prop} {s e : Nat} (ok : qp_ok p) (Rs : qn_Rs p jT bG lV) (hs : s < 4) (he : e ≤ 10000) (h : post (nI (qq_ar p s e))) : wpX_sumOfStaysBefore post ((nI (qp_m p)), nw, nc, (qp_SV p), (qp_RU p), (qp_AR p), (qp_VC p), (qp_VS p), (qp_VN p), jT, bG, lV, oJ, oB, oL, cV, wA, fR, eV, cA) (nI s) (nI e) := by
  sorry
theorem xq_lb {post : Int32 → Prop} {c : Nat} (ok : qp_ok p) (Rs : qn_Rs p jT bG lV) (hc : c < qp_m p) (h : post (nI (qq_be p c))) : wpX_countLeavingBefore post ((nI (qp_m p)), nw, nc, (qp_SV p), (qp_RU p), (qp_AR p), (qp_VC p), (qp_VS p), (qp_VN p), jT, bG, lV, oJ, oB, oL, cV, wA, fR, eV, cA) (nI c) := by
  sorry
end XA
