section YU
variable {p : qp_T} {jT bG lV nW : Nat → Int32} {post : Int32 → Prop} {v1 v2 : Int32}
theorem yp_leaves_t {e c : Nat} (ok : qp_ok p) (Rs : qn_Rs p jT bG lV) (he : e < 4) (hc : c < qp_m p) (h : post (nI (qq_L p c))) : wpY_leaves post ((nI (qp_m p)), (qp_SV p), (qp_RU p), (qp_AR p), (qp_VC p), (qp_VS p), (qp_VN p), jT, bG, lV, nW) (nI e) (nI c) := by
  have hm := ok.1
  unfold wpY_leaves
  dsimp only
  refine yb_en_t he (br_f (by decide) (yb_cu_t hm hc (br_f (by decide) ⟨vp_in_nI (by omega) (by omega), ?_⟩)))
  rw [nI_clamp (by omega), qq_RL Rs hc]
  exact h
theorem yp_leaves_f (ok : qp_ok p) (hn : ¬ (ix_v v1 4 ∧ ix_v v2 (qp_m p))) (h : post (-1)) : wpY_leaves post ((nI (qp_m p)), (qp_SV p), (qp_RU p), (qp_AR p), (qp_VC p), (qp_VS p), (qp_VN p), jT, bG, lV, nW) v1 v2 := by
  have hm := ok.1
  unfold wpY_leaves
  dsimp only
  by_cases a : ix_v v1 4
  · obtain ⟨e, he, rfl⟩ := a
    exact yb_en_t he (br_f (by decide) (yb_cu_f hm (fun z => hn ⟨⟨e, he, rfl⟩, z⟩) (br_t rfl h)))
  · exact yb_en_f a (br_t rfl h)
theorem yp_joins_t {c k : Nat} (ok : qp_ok p) (Rs : qn_Rs p jT bG lV) (hc : c < qp_m p) (hk : k < qp_vc p c) (h : post (nI (qq_J p (4 * c + k)))) : wpY_joins post ((nI (qp_m p)), (qp_SV p), (qp_RU p), (qp_AR p), (qp_VC p), (qp_VS p), (qp_VN p), jT, bG, lV, nW) (nI c) (nI k) := by
  have hm := ok.1
  have hv := (ok.2.2 c hc).2.1
  unfold wpY_joins
  dsimp only
  refine yb_vi_t ok hc hk (br_f (by decide) ?_)
  rw [yl_c4, nI_clamp (by omega), (qq_RJ Rs hc hk).1]
  exact ⟨vp_in_nI (by omega) (by omega), h⟩
theorem yp_joins_f (ok : qp_ok p) (hn : ¬ jx_v p v1 v2) (h : post (-1)) : wpY_joins post ((nI (qp_m p)), (qp_SV p), (qp_RU p), (qp_AR p), (qp_VC p), (qp_VS p), (qp_VN p), jT, bG, lV, nW) v1 v2 := by
  unfold wpY_joins
  dsimp only
  exact yb_vi_f ok hn (br_t rfl h)
theorem yp_begins_t {c k : Nat} (ok : qp_ok p) (Rs : qn_Rs p jT bG lV) (hc : c < qp_m p) (hk : k < qp_vc p c) (h : post (nI (qq_B p (4 * c + k)))) : wpY_begins post ((nI (qp_m p)), (qp_SV p), (qp_RU p), (qp_AR p), (qp_VC p), (qp_VS p), (qp_VN p), jT, bG, lV, nW) (nI c) (nI k) := by
  have hm := ok.1
  have hv := (ok.2.2 c hc).2.1
  unfold wpY_begins
  dsimp only
  refine yb_vi_t ok hc hk (br_f (by decide) ?_)
  rw [yl_c4, nI_clamp (by omega), (qq_RJ Rs hc hk).2]
  exact ⟨vp_in_nI (by omega) (by omega), h⟩
theorem yp_begins_f (ok : qp_ok p) (hn : ¬ jx_v p v1 v2) (h : post (-1)) : wpY_begins post ((nI (qp_m p)), (qp_SV p), (qp_RU p), (qp_AR p), (qp_VC p), (qp_VS p), (qp_VN p), jT, bG, lV, nW) v1 v2 := by
  unfold wpY_begins
  dsimp only
  exact yb_vi_f ok hn (br_t rfl h)
theorem yp_at_t {s t : Nat} (ok : qp_ok p) (Rs : qn_Rs p jT bG lV) (hs : s < 4) (ht : t < 10001) (h : post (nI (qq_n p s t 0))) : wpY_at post ((nI (qp_m p)), (qp_SV p), (qp_RU p), (qp_AR p), (qp_VC p), (qp_VS p), (qp_VN p), jT, bG, lV, nW) (nI s) (nI t) := by
  unfold wpY_at
  dsimp only
  exact yb_st_t hs (br_f (by decide) (yb_tm_t ht (br_f (by decide) (yq_nu (kd := 0) ok Rs (by omega) (by omega) (by rw [qy_n_s ok hs]; exact h)))))
theorem yp_at_f (hn : ¬ (ix_v v1 4 ∧ ix_v v2 10001)) (h : post (-1)) : wpY_at post ((nI (qp_m p)), (qp_SV p), (qp_RU p), (qp_AR p), (qp_VC p), (qp_VS p), (qp_VN p), jT, bG, lV, nW) v1 v2 := by
  unfold wpY_at
  dsimp only
  by_cases a : ix_v v1 4
  · obtain ⟨s, hs, rfl⟩ := a
    exact yb_st_t hs (br_f (by decide) (yb_tm_f (fun z => hn ⟨⟨s, hs, rfl⟩, z⟩) (br_t rfl h)))
  · exact yb_st_f a (br_t rfl h)
theorem yp_waits_t {s t : Nat} (ok : qp_ok p) (Rs : qn_Rs p jT bG lV) (hs : s < 4) (ht : t < 10001) (h : post (nI (qq_n p s t 1))) : wpY_waits post ((nI (qp_m p)), (qp_SV p), (qp_RU p), (qp_AR p), (qp_VC p), (qp_VS p), (qp_VN p), jT, bG, lV, nW) (nI s) (nI t) := by
  unfold wpY_waits
  dsimp only
  exact yb_st_t hs (br_f (by decide) (yb_tm_t ht (br_f (by decide) (yq_nu (kd := 1) ok Rs (by omega) (by omega) (by rw [qy_n_s ok hs]; exact h)))))
theorem yp_waits_f (hn : ¬ (ix_v v1 4 ∧ ix_v v2 10001)) (h : post (-1)) : wpY_waits post ((nI (qp_m p)), (qp_SV p), (qp_RU p), (qp_AR p), (qp_VC p), (qp_VS p), (qp_VN p), jT, bG, lV, nW) v1 v2 := by
  unfold wpY_waits
  dsimp only
  by_cases a : ix_v v1 4
  · obtain ⟨s, hs, rfl⟩ := a
    exact yb_st_t hs (br_f (by decide) (yb_tm_f (fun z => hn ⟨⟨s, hs, rfl⟩, z⟩) (br_t rfl h)))
  · exact yb_st_f a (br_t rfl h)
theorem yp_area_t {s t : Nat} (ok : qp_ok p) (Rs : qn_Rs p jT bG lV) (hs : s < 4) (ht : t < 10001) (h : post (nI (qq_ar p s t))) : wpY_area post ((nI (qp_m p)), (qp_SV p), (qp_RU p), (qp_AR p), (qp_VC p), (qp_VS p), (qp_VN p), jT, bG, lV, nW) (nI s) (nI t) := by
  unfold wpY_area
  dsimp only
  exact yb_st_t hs (br_f (by decide) (yb_tm_t ht (br_f (by decide) ⟨t + 1, yq_ar ok Rs hs (by omega) h t (t + 1) 0 (by omega) (by omega)⟩)))
theorem yp_area_f (hn : ¬ (ix_v v1 4 ∧ ix_v v2 10001)) (h : post (-1)) : wpY_area post ((nI (qp_m p)), (qp_SV p), (qp_RU p), (qp_AR p), (qp_VC p), (qp_VS p), (qp_VN p), jT, bG, lV, nW) v1 v2 := by
  unfold wpY_area
  dsimp only
  by_cases a : ix_v v1 4
  · obtain ⟨s, hs, rfl⟩ := a
    exact yb_st_t hs (br_f (by decide) (yb_tm_f (fun z => hn ⟨⟨s, hs, rfl⟩, z⟩) (br_t rfl h)))
  · exact yb_st_f a (br_t rfl h)
theorem yp_stays_t {s : Nat} (ok : qp_ok p) (Rs : qn_Rs p jT bG lV) (hs : s < 4) (h : post (nI (qq_ar p s (qq_la p)))) : wpY_stays post ((nI (qp_m p)), (qp_SV p), (qp_RU p), (qp_AR p), (qp_VC p), (qp_VS p), (qp_VN p), jT, bG, lV, nW) (nI s) := by
  have hl := qq_la_le ok
  unfold wpY_stays
  dsimp only
  exact yp_area_t (t := 2000) ok Rs hs (by omega) (by rw [qq_ar_z ok (by omega)]; exact h)
theorem yp_stays_f (hn : ¬ ix_v v1 4) (h : post (-1)) : wpY_stays post ((nI (qp_m p)), (qp_SV p), (qp_RU p), (qp_AR p), (qp_VC p), (qp_VS p), (qp_VN p), jT, bG, lV, nW) v1 := by
  unfold wpY_stays
  dsimp only
  exact yp_area_f (fun z => hn z.1) h
theorem yp_busy (ok : qp_ok p) (Rs : qn_Rs p jT bG lV) (h : ∀ s, s < 4 → v1 = nI s → post (nI (qq_bs p s (qq_la p)))) (h0 : ¬ ix_v v1 4 → post (-1)) : wpY_busy post ((nI (qp_m p)), (qp_SV p), (qp_RU p), (qp_AR p), (qp_VC p), (qp_VS p), (qp_VN p), jT, bG, lV, nW) v1 :=
  ⟨qq_la p + 1, yq_bu ok Rs h h0 (qq_la p) (qq_la p + 1) 0 0 (by omega) (by omega) (fun _ _ _ => rfl)⟩
theorem yp_longest (ok : qp_ok p) (Rs : qn_Rs p jT bG lV) (h : ∀ s, s < 4 → v1 = nI s → post (nI (qq_lo p s (qq_la p)))) (h0 : ¬ ix_v v1 4 → post (-1)) : wpY_longest post ((nI (qp_m p)), (qp_SV p), (qp_RU p), (qp_AR p), (qp_VC p), (qp_VS p), (qp_VN p), jT, bG, lV, nW) v1 :=
  ⟨qq_la p + 1, yq_lo ok Rs h h0 (qq_la p) (qq_la p + 1) 0 0 (by omega) (by omega) (by omega) (fun _ _ _ => rfl)⟩
theorem yp_agree_t (h1 : ix_v v1 4) (h2 : ix_v v2 4) (h : post 1) : wpY_agree post ((nI (qp_m p)), (qp_SV p), (qp_RU p), (qp_AR p), (qp_VC p), (qp_VS p), (qp_VN p), jT, bG, lV, nW) v1 v2 := by
  obtain ⟨e, he, rfl⟩ := h1
  obtain ⟨f, hf, rfl⟩ := h2
  unfold wpY_agree
  dsimp only
  exact yb_en_t he (br_f (by decide) (yb_en_t hf (br_f (by decide) h)))
theorem yp_agree_f (hn : ¬ (ix_v v1 4 ∧ ix_v v2 4)) (h : post 0) : wpY_agree post ((nI (qp_m p)), (qp_SV p), (qp_RU p), (qp_AR p), (qp_VC p), (qp_VS p), (qp_VN p), jT, bG, lV, nW) v1 v2 := by
  unfold wpY_agree
  dsimp only
  by_cases a : ix_v v1 4
  · obtain ⟨e, he, rfl⟩ := a
    exact yb_en_t he (br_f (by decide) (yb_en_f (fun z => hn ⟨⟨e, he, rfl⟩, z⟩) (br_t rfl h)))
  · exact yb_en_f a (br_t rfl h)
end YU
