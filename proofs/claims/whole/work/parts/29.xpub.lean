def jx_v (p : qp_T) (v w : Int32) : Prop := ∃ c k, c < qp_m p ∧ k < qp_vc p c ∧ v = nI c ∧ w = nI k
def xs_S (p : qp_T) (u : SX) : Prop := ∃ (nw nc : Int32) (jT bG lV oJ oB oL cV wA fR eV cA : Nat → Int32), u = ((nI (qp_m p)), nw, nc, (qp_SV p), (qp_RU p), (qp_AR p), (qp_VC p), (qp_VS p), (qp_VN p), jT, bG, lV, oJ, oB, oL, cV, wA, fR, eV, cA)
section XP
variable {p : qp_T} {mm nw nc : Int32} {sC rU aR vC vS vN jT bG lV oJ oB oL cV wA fR eV cA : Nat → Int32}
theorem xs_i : xs_S p ((nI (qp_m p)), nw, nc, (qp_SV p), (qp_RU p), (qp_AR p), (qp_VC p), (qp_VS p), (qp_VN p), jT, bG, lV, oJ, oB, oL, cV, wA, fR, eV, cA) := ⟨_, _, _, _, _, _, _, _, _, _, _, _, _, rfl⟩
theorem xb_vi_t {post : Int32 → Prop} {c k : Nat} (ok : qp_ok p) (hc : c < qp_m p) (hk : k < qp_vc p c) (h : post 1) : wpX_isVisit post ((nI (qp_m p)), nw, nc, (qp_SV p), (qp_RU p), (qp_AR p), (qp_VC p), (qp_VS p), (qp_VN p), jT, bG, lV, oJ, oB, oL, cV, wA, fR, eV, cA) (nI c) (nI k) := by
  have hm := ok.1
  have hv := (ok.2.2 c hc).2.1
  unfold wpX_isVisit
  dsimp only
  refine xb_cu_t hm hc (br_f (by decide) (br_f (nI_pos (by omega)) ⟨vp_in_nI (by omega) (by omega), ?_⟩))
  rw [nI_clamp (by omega), qp_VCe]
  exact br_f (nI_ge hk (by omega)) h
theorem xb_vi_f {post : Int32 → Prop} {v w : Int32} (ok : qp_ok p) (hn : ¬ jx_v p v w) (h : post 0) : wpX_isVisit post ((nI (qp_m p)), nw, nc, (qp_SV p), (qp_RU p), (qp_AR p), (qp_VC p), (qp_VS p), (qp_VN p), jT, bG, lV, oJ, oB, oL, cV, wA, fR, eV, cA) v w := by
  have hm := ok.1
  unfold wpX_isVisit
  dsimp only
  by_cases a : ix_v v (qp_m p)
  · obtain ⟨c, hc, rfl⟩ := a
    have hv := (ok.2.2 c hc).2.1
    refine xb_cu_t hm hc (br_f (by decide) ?_)
    rcases ix_f (v := w) (n := qp_vc p c) (by omega) (fun z => by obtain ⟨k, hk, e⟩ := z; exact hn ⟨c, k, hc, hk, rfl, e⟩) with b | ⟨b, b'⟩
    · exact br_t b h
    · refine br_f b ⟨vp_in_nI (by omega) (by omega), ?_⟩
      rw [nI_clamp (by omega), qp_VCe]
      exact br_t b' h
  · exact xb_cu_f hm a (br_t rfl h)
theorem xp_leaves {post : Int32 → SX → Prop} {v1 v2 : Int32} (ok : qp_ok p) (h : ∀ e c u, e < 4 → c < qp_m p → v1 = nI e → v2 = nI c → xs_S p u → post (nI (qq_L p c)) u) (h0 : ¬ (ix_v v1 4 ∧ ix_v v2 (qp_m p)) → post (-1) ((nI (qp_m p)), nw, nc, (qp_SV p), (qp_RU p), (qp_AR p), (qp_VC p), (qp_VS p), (qp_VN p), jT, bG, lV, oJ, oB, oL, cV, wA, fR, eV, cA)) : wpX_leaves post ((nI (qp_m p)), nw, nc, (qp_SV p), (qp_RU p), (qp_AR p), (qp_VC p), (qp_VS p), (qp_VN p), jT, bG, lV, oJ, oB, oL, cV, wA, fR, eV, cA) v1 v2 := by
  have hm := ok.1
  unfold wpX_leaves
  dsimp only
  by_cases a : ix_v v1 4
  · obtain ⟨e, he, rfl⟩ := a
    refine xb_en_t he (br_f (by decide) ?_)
    by_cases b : ix_v v2 (qp_m p)
    · obtain ⟨c, hc, rfl⟩ := b
      refine xb_cu_t hm hc (br_f (by decide) (xl_run ok he (fun nw' nc' jt bg lv cv wa fr ev cal Rs => ⟨vp_in_nI (by omega) (by omega), ?_⟩)))
      dsimp only
      rw [nI_clamp (by omega), qq_RL Rs hc]
      exact h e c _ he hc rfl rfl xs_i
    · exact xb_cu_f hm b (br_t rfl (h0 (fun z => b z.2)))
  · exact xb_en_f a (br_t rfl (h0 (fun z => a z.1)))
theorem xp_joins {post : Int32 → SX → Prop} {v1 v2 : Int32} (ok : qp_ok p) (h : ∀ c k u, c < qp_m p → k < qp_vc p c → v1 = nI c → v2 = nI k → xs_S p u → post (nI (qq_J p (4 * c + k))) u) (h0 : ¬ jx_v p v1 v2 → post (-1) ((nI (qp_m p)), nw, nc, (qp_SV p), (qp_RU p), (qp_AR p), (qp_VC p), (qp_VS p), (qp_VN p), jT, bG, lV, oJ, oB, oL, cV, wA, fR, eV, cA)) : wpX_joins post ((nI (qp_m p)), nw, nc, (qp_SV p), (qp_RU p), (qp_AR p), (qp_VC p), (qp_VS p), (qp_VN p), jT, bG, lV, oJ, oB, oL, cV, wA, fR, eV, cA) v1 v2 := by
  have hm := ok.1
  unfold wpX_joins
  dsimp only
  by_cases a : jx_v p v1 v2
  · obtain ⟨c, k, hc, hk, rfl, rfl⟩ := a
    have hv := (ok.2.2 c hc).2.1
    refine xb_vi_t ok hc hk (br_f (by decide) (xl_run (e := 0) ok (by omega) (fun nw' nc' jt bg lv cv wa fr ev cal Rs => xl_vi ⟨vp_in_nI (by omega) (by omega), ?_⟩)))
    dsimp only
    rw [nI_clamp (by omega), (qq_RJ Rs hc hk).1]
    exact h c k _ hc hk rfl rfl xs_i
  · exact xb_vi_f ok a (br_t rfl (h0 a))
theorem xp_begins {post : Int32 → SX → Prop} {v1 v2 : Int32} (ok : qp_ok p) (h : ∀ c k u, c < qp_m p → k < qp_vc p c → v1 = nI c → v2 = nI k → xs_S p u → post (nI (qq_B p (4 * c + k))) u) (h0 : ¬ jx_v p v1 v2 → post (-1) ((nI (qp_m p)), nw, nc, (qp_SV p), (qp_RU p), (qp_AR p), (qp_VC p), (qp_VS p), (qp_VN p), jT, bG, lV, oJ, oB, oL, cV, wA, fR, eV, cA)) : wpX_begins post ((nI (qp_m p)), nw, nc, (qp_SV p), (qp_RU p), (qp_AR p), (qp_VC p), (qp_VS p), (qp_VN p), jT, bG, lV, oJ, oB, oL, cV, wA, fR, eV, cA) v1 v2 := by
  have hm := ok.1
  unfold wpX_begins
  dsimp only
  by_cases a : jx_v p v1 v2
  · obtain ⟨c, k, hc, hk, rfl, rfl⟩ := a
    have hv := (ok.2.2 c hc).2.1
    refine xb_vi_t ok hc hk (br_f (by decide) (xl_run (e := 0) ok (by omega) (fun nw' nc' jt bg lv cv wa fr ev cal Rs => xl_vi ⟨vp_in_nI (by omega) (by omega), ?_⟩)))
    dsimp only
    rw [nI_clamp (by omega), (qq_RJ Rs hc hk).2]
    exact h c k _ hc hk rfl rfl xs_i
  · exact xb_vi_f ok a (br_t rfl (h0 a))
theorem xp_at {post : Int32 → SX → Prop} {v1 v2 : Int32} (ok : qp_ok p) (h : ∀ s t u, s < 4 → t < 10001 → v1 = nI s → v2 = nI t → xs_S p u → post (nI (qq_n p s t 0)) u) (h0 : ¬ (ix_v v1 4 ∧ ix_v v2 10001) → post (-1) ((nI (qp_m p)), nw, nc, (qp_SV p), (qp_RU p), (qp_AR p), (qp_VC p), (qp_VS p), (qp_VN p), jT, bG, lV, oJ, oB, oL, cV, wA, fR, eV, cA)) : wpX_at post ((nI (qp_m p)), nw, nc, (qp_SV p), (qp_RU p), (qp_AR p), (qp_VC p), (qp_VS p), (qp_VN p), jT, bG, lV, oJ, oB, oL, cV, wA, fR, eV, cA) v1 v2 := by
  unfold wpX_at
  dsimp only
  by_cases a : ix_v v1 4
  · obtain ⟨s, hs, rfl⟩ := a
    refine xb_st_t hs (br_f (by decide) ?_)
    by_cases b : ix_v v2 10001
    · obtain ⟨t, ht, rfl⟩ := b
      exact xb_tm_t ht (br_f (by decide) (xl_run (e := 0) ok (by omega) (fun nw' nc' jt bg lv cv wa fr ev cal Rs => xq_cp ok Rs hs (by omega) (h s t _ hs ht rfl rfl xs_i))))
    · exact xb_tm_f b (br_t rfl (h0 (fun z => b z.2)))
  · exact xb_st_f a (br_t rfl (h0 (fun z => a z.1)))
theorem xp_waits {post : Int32 → SX → Prop} {v1 v2 : Int32} (ok : qp_ok p) (h : ∀ s t u, s < 4 → t < 10001 → v1 = nI s → v2 = nI t → xs_S p u → post (nI (qq_n p s t 1)) u) (h0 : ¬ (ix_v v1 4 ∧ ix_v v2 10001) → post (-1) ((nI (qp_m p)), nw, nc, (qp_SV p), (qp_RU p), (qp_AR p), (qp_VC p), (qp_VS p), (qp_VN p), jT, bG, lV, oJ, oB, oL, cV, wA, fR, eV, cA)) : wpX_waits post ((nI (qp_m p)), nw, nc, (qp_SV p), (qp_RU p), (qp_AR p), (qp_VC p), (qp_VS p), (qp_VN p), jT, bG, lV, oJ, oB, oL, cV, wA, fR, eV, cA) v1 v2 := by
  unfold wpX_waits
  dsimp only
  by_cases a : ix_v v1 4
  · obtain ⟨s, hs, rfl⟩ := a
    refine xb_st_t hs (br_f (by decide) ?_)
    by_cases b : ix_v v2 10001
    · obtain ⟨t, ht, rfl⟩ := b
      exact xb_tm_t ht (br_f (by decide) (xl_run (e := 0) ok (by omega) (fun nw' nc' jt bg lv cv wa fr ev cal Rs => xq_cw ok Rs hs (by omega) (h s t _ hs ht rfl rfl xs_i))))
    · exact xb_tm_f b (br_t rfl (h0 (fun z => b z.2)))
  · exact xb_st_f a (br_t rfl (h0 (fun z => a z.1)))
theorem xp_area {post : Int32 → SX → Prop} {v1 v2 : Int32} (ok : qp_ok p) (h : ∀ s t u, s < 4 → t < 10001 → v1 = nI s → v2 = nI t → xs_S p u → post (nI (qq_ar p s t)) u) (h0 : ¬ (ix_v v1 4 ∧ ix_v v2 10001) → post (-1) ((nI (qp_m p)), nw, nc, (qp_SV p), (qp_RU p), (qp_AR p), (qp_VC p), (qp_VS p), (qp_VN p), jT, bG, lV, oJ, oB, oL, cV, wA, fR, eV, cA)) : wpX_area post ((nI (qp_m p)), nw, nc, (qp_SV p), (qp_RU p), (qp_AR p), (qp_VC p), (qp_VS p), (qp_VN p), jT, bG, lV, oJ, oB, oL, cV, wA, fR, eV, cA) v1 v2 := by
  unfold wpX_area
  dsimp only
  by_cases a : ix_v v1 4
  · obtain ⟨s, hs, rfl⟩ := a
    refine xb_st_t hs (br_f (by decide) ?_)
    by_cases b : ix_v v2 10001
    · obtain ⟨t, ht, rfl⟩ := b
      exact xb_tm_t ht (br_f (by decide) (xl_run (e := 0) ok (by omega) (fun nw' nc' jt bg lv cv wa fr ev cal Rs => xq_ss ok Rs hs (by omega) (h s t _ hs ht rfl rfl xs_i))))
    · exact xb_tm_f b (br_t rfl (h0 (fun z => b z.2)))
  · exact xb_st_f a (br_t rfl (h0 (fun z => a z.1)))
theorem xp_stays {post : Int32 → SX → Prop} {v1 : Int32} (ok : qp_ok p) (h : ∀ s u, s < 4 → v1 = nI s → xs_S p u → post (nI (qq_ar p s (qq_la p))) u) (h0 : ¬ ix_v v1 4 → post (-1) ((nI (qp_m p)), nw, nc, (qp_SV p), (qp_RU p), (qp_AR p), (qp_VC p), (qp_VS p), (qp_VN p), jT, bG, lV, oJ, oB, oL, cV, wA, fR, eV, cA)) : wpX_stays post ((nI (qp_m p)), nw, nc, (qp_SV p), (qp_RU p), (qp_AR p), (qp_VC p), (qp_VS p), (qp_VN p), jT, bG, lV, oJ, oB, oL, cV, wA, fR, eV, cA) v1 := by
  unfold wpX_stays
  dsimp only
  by_cases a : ix_v v1 4
  · obtain ⟨s, hs, rfl⟩ := a
    have hl := qq_la_le ok
    exact xb_st_t hs (br_f (by decide) (xl_run (e := 0) ok (by omega) (fun nw' nc' jt bg lv cv wa fr ev cal Rs => xq_ss (t := 1541) ok Rs hs (by omega) (by rw [qq_ar_z ok (by omega)]; exact h s _ hs rfl xs_i))))
  · exact xb_st_f a (br_t rfl (h0 a))
theorem xp_busy {post : Int32 → SX → Prop} {v1 : Int32} (ok : qp_ok p) (h : ∀ s u, s < 4 → v1 = nI s → xs_S p u → post (nI (qq_bs p s (qq_la p))) u) (h0 : ¬ ix_v v1 4 → post (-1) ((nI (qp_m p)), nw, nc, (qp_SV p), (qp_RU p), (qp_AR p), (qp_VC p), (qp_VS p), (qp_VN p), jT, bG, lV, oJ, oB, oL, cV, wA, fR, eV, cA)) : wpX_busy post ((nI (qp_m p)), nw, nc, (qp_SV p), (qp_RU p), (qp_AR p), (qp_VC p), (qp_VS p), (qp_VN p), jT, bG, lV, oJ, oB, oL, cV, wA, fR, eV, cA) v1 := by
  unfold wpX_busy
  dsimp only
  by_cases a : ix_v v1 4
  · obtain ⟨s, hs, rfl⟩ := a
    exact xb_st_t hs (br_f (by decide) (xl_run (e := 0) ok (by omega) (fun nw' nc' jt bg lv cv wa fr ev cal Rs => ⟨1542, xq_bu ok Rs hs (h s _ hs rfl xs_i) 1541 1542 0 (by omega) (by omega)⟩)))
  · exact xb_st_f a (br_t rfl (h0 a))
theorem xp_longest {post : Int32 → SX → Prop} {v1 : Int32} (ok : qp_ok p) (h : ∀ s u, s < 4 → v1 = nI s → xs_S p u → post (nI (qq_lo p s (qq_la p))) u) (h0 : ¬ ix_v v1 4 → post (-1) ((nI (qp_m p)), nw, nc, (qp_SV p), (qp_RU p), (qp_AR p), (qp_VC p), (qp_VS p), (qp_VN p), jT, bG, lV, oJ, oB, oL, cV, wA, fR, eV, cA)) : wpX_longest post ((nI (qp_m p)), nw, nc, (qp_SV p), (qp_RU p), (qp_AR p), (qp_VC p), (qp_VS p), (qp_VN p), jT, bG, lV, oJ, oB, oL, cV, wA, fR, eV, cA) v1 := by
  unfold wpX_longest
  dsimp only
  by_cases a : ix_v v1 4
  · obtain ⟨s, hs, rfl⟩ := a
    exact xb_st_t hs (br_f (by decide) (xl_run (e := 0) ok (by omega) (fun nw' nc' jt bg lv cv wa fr ev cal Rs => ⟨1542, xq_lo ok Rs hs (h s _ hs rfl xs_i) 1541 1542 0 (by omega) (by omega)⟩)))
  · exact xb_st_f a (br_t rfl (h0 a))
theorem xp_last {post : Int32 → SX → Prop} (ok : qp_ok p) (h : ∀ u, xs_S p u → post (nI (qq_la p)) u) : wpX_last post ((nI (qp_m p)), nw, nc, (qp_SV p), (qp_RU p), (qp_AR p), (qp_VC p), (qp_VS p), (qp_VN p), jT, bG, lV, oJ, oB, oL, cV, wA, fR, eV, cA) := by
  unfold wpX_last
  dsimp only
  exact xl_run (e := 0) ok (by omega) (fun nw' nc' jt bg lv cv wa fr ev cal Rs => ⟨qp_m p + 1, xq_la ok Rs (h _ xs_i) (qp_m p) (qp_m p + 1) 0 (by omega) (by omega)⟩)
theorem xp_order {post : Int32 → SX → Prop} {v : Int32} (ok : qp_ok p) (h : ∀ r u, qq_or p v (qp_m p) r → xs_S p u → post r u) : wpX_order post ((nI (qp_m p)), nw, nc, (qp_SV p), (qp_RU p), (qp_AR p), (qp_VC p), (qp_VS p), (qp_VN p), jT, bG, lV, oJ, oB, oL, cV, wA, fR, eV, cA) v := by
  have hm := ok.1
  unfold wpX_order
  dsimp only
  by_cases a : ix_v v (qp_m p)
  · obtain ⟨k, hk, rfl⟩ := a
    exact xb_cu_t hm hk (br_f (by decide) (xl_run (e := 0) ok (by omega) (fun nw' nc' jt bg lv cv wa fr ev cal Rs => ⟨qp_m p + 1, xq_or ok Rs (fun r hr => h r _ hr xs_i) (qp_m p) (qp_m p + 1) 0 (-1) (by omega) (by omega) (Or.inr ⟨rfl, fun b hb => absurd hb (by omega)⟩)⟩)))
  · refine xb_cu_f hm a (br_t rfl (h _ _ (Or.inr ⟨rfl, fun b hb z => a ⟨qq_be p b, qq_be_lt hb, z.symm⟩⟩) xs_i))
theorem xp_agree {post : Int32 → SX → Prop} {v1 v2 : Int32} (ok : qp_ok p) (h : ∀ u, ix_v v1 4 → ix_v v2 4 → xs_S p u → post 1 u) (h0 : ¬ (ix_v v1 4 ∧ ix_v v2 4) → post 0 ((nI (qp_m p)), nw, nc, (qp_SV p), (qp_RU p), (qp_AR p), (qp_VC p), (qp_VS p), (qp_VN p), jT, bG, lV, oJ, oB, oL, cV, wA, fR, eV, cA)) : wpX_agree post ((nI (qp_m p)), nw, nc, (qp_SV p), (qp_RU p), (qp_AR p), (qp_VC p), (qp_VS p), (qp_VN p), jT, bG, lV, oJ, oB, oL, cV, wA, fR, eV, cA) v1 v2 := by
  unfold wpX_agree
  dsimp only
  by_cases a : ix_v v1 4
  · obtain ⟨e, he, rfl⟩ := a
    refine xb_en_t he (br_f (by decide) ?_)
    by_cases b : ix_v v2 4
    · obtain ⟨f, hf, rfl⟩ := b
      exact xb_en_t hf (br_f (by decide) (xl_run ok hf (fun nw' nc' jt bg lv cv wa fr ev cal Rs => xl_ka ok Rs (fun oj ob ol Ro => xl_run ok he (fun nw2 nc2 jt2 bg2 lv2 cv2 wa2 fr2 ev2 cal2 R2 => xl_sa ok R2 Ro ⟨rfl, h _ ⟨e, he, rfl⟩ ⟨f, hf, rfl⟩ xs_i⟩)))))
    · exact xb_en_f b (br_t rfl (h0 (fun z => b z.2)))
  · exact xb_en_f a (br_t rfl (h0 (fun z => a z.1)))
end XP
