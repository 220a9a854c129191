def qy_do (p : qp_T) (s : Int32) (t kd i : Nat) : Bool := decide (i / 4 < qp_m p ∧ i % 4 < qp_vc p (i / 4) ∧ nI (qp_vs p i) = s ∧ qq_J p i ≤ t ∧ t < qq_E p i ∧ (kd = 0 ∨ (kd = 1 ∧ t < qq_B p i) ∨ (kd = 2 ∧ qq_B p i ≤ t)))
theorem qy_do_iff {p : qp_T} {s : Int32} {t kd i : Nat} : qy_do p s t kd i = true ↔ (i / 4 < qp_m p ∧ i % 4 < qp_vc p (i / 4) ∧ nI (qp_vs p i) = s ∧ qq_J p i ≤ t ∧ t < qq_E p i ∧ (kd = 0 ∨ (kd = 1 ∧ t < qq_B p i) ∨ (kd = 2 ∧ qq_B p i ≤ t))) := by unfold qy_do; exact decide_eq_true_iff
theorem qy_do_s {p : qp_T} (ok : qp_ok p) {s t kd i : Nat} (hs : s < 4) : qy_do p (nI s) t kd i = qq_do p s t kd i := by
  unfold qy_do qq_do
  refine decide_eq_decide.mpr ⟨fun z => ⟨z.1, z.2.1, ?_, z.2.2.2⟩, fun z => ⟨z.1, z.2.1, by rw [z.2.2.1], z.2.2.2⟩⟩
  have h := ((ok.2.2 _ z.1).2.2 _ z.2.1).1
  have e : 4 * (i / 4) + i % 4 = i := by omega
  rw [e] at h
  exact (nI_eq (by omega) (by omega)).mp z.2.2.1
def qy_n (p : qp_T) (s : Int32) (t kd : Nat) : Nat := qs_cnt (qy_do p s t kd) 48
theorem qy_n_s {p : qp_T} (ok : qp_ok p) {s t kd : Nat} (hs : s < 4) : qy_n p (nI s) t kd = qq_n p s t kd := qs_cnt_ext (fun _ _ => qy_do_s ok hs)
section YA
variable {p : qp_T} {jT bG lV nW : Nat → Int32}
theorem yb_st_t {post : Int32 → Prop} {s : Nat} (hs : s < 4) (h : post 1) : wpY_isStation post ((nI (qp_m p)), (qp_SV p), (qp_RU p), (qp_AR p), (qp_VC p), (qp_VS p), (qp_VN p), jT, bG, lV, nW) (nI s) :=
  br_f (nI_pos (by omega)) (br_f (nI_nlt (a := 3) (b := s) (by omega) (by decide)) h)
theorem yb_st_f {post : Int32 → Prop} {v : Int32} (hs : ¬ ix_v v 4) (h : post 0) : wpY_isStation post ((nI (qp_m p)), (qp_SV p), (qp_RU p), (qp_AR p), (qp_VC p), (qp_VS p), (qp_VN p), jT, bG, lV, nW) v := by
  rcases ix_f1 (n := 3) (by omega) hs with a | ⟨a, b⟩
  · exact br_t a h
  · exact br_f a (br_t b h)
theorem yb_en_t {post : Int32 → Prop} {s : Nat} (hs : s < 4) (h : post 1) : wpY_engine post ((nI (qp_m p)), (qp_SV p), (qp_RU p), (qp_AR p), (qp_VC p), (qp_VS p), (qp_VN p), jT, bG, lV, nW) (nI s) :=
  br_f (nI_pos (by omega)) (br_f (nI_nlt (a := 3) (b := s) (by omega) (by decide)) h)
theorem yb_en_f {post : Int32 → Prop} {v : Int32} (hs : ¬ ix_v v 4) (h : post 0) : wpY_engine post ((nI (qp_m p)), (qp_SV p), (qp_RU p), (qp_AR p), (qp_VC p), (qp_VS p), (qp_VN p), jT, bG, lV, nW) v := by
  rcases ix_f1 (n := 3) (by omega) hs with a | ⟨a, b⟩
  · exact br_t a h
  · exact br_f a (br_t b h)
theorem yb_tm_t {post : Int32 → Prop} {t : Nat} (ht : t < 10001) (h : post 1) : wpY_isTime post ((nI (qp_m p)), (qp_SV p), (qp_RU p), (qp_AR p), (qp_VC p), (qp_VS p), (qp_VN p), jT, bG, lV, nW) (nI t) :=
  br_f (nI_pos (by omega)) (br_f (nI_nlt (a := 10000) (b := t) (by omega) (by decide)) h)
theorem yb_tm_f {post : Int32 → Prop} {v : Int32} (hs : ¬ ix_v v 10001) (h : post 0) : wpY_isTime post ((nI (qp_m p)), (qp_SV p), (qp_RU p), (qp_AR p), (qp_VC p), (qp_VS p), (qp_VN p), jT, bG, lV, nW) v := by
  rcases ix_f1 (n := 10000) (by omega) hs with a | ⟨a, b⟩
  · exact br_t a h
  · exact br_f a (br_t b h)
theorem yb_cu_t {post : Int32 → Prop} {c : Nat} (hm : qp_m p ≤ 12) (hc : c < qp_m p) (h : post 1) : wpY_is post ((nI (qp_m p)), (qp_SV p), (qp_RU p), (qp_AR p), (qp_VC p), (qp_VS p), (qp_VN p), jT, bG, lV, nW) (nI c) :=
  br_f (nI_pos (by omega)) (br_f (nI_ge hc (by omega)) h)
theorem yb_cu_f {post : Int32 → Prop} {v : Int32} (hm : qp_m p ≤ 12) (hs : ¬ ix_v v (qp_m p)) (h : post 0) : wpY_is post ((nI (qp_m p)), (qp_SV p), (qp_RU p), (qp_AR p), (qp_VC p), (qp_VS p), (qp_VN p), jT, bG, lV, nW) v := by
  rcases ix_f (by omega) hs with a | ⟨a, b⟩
  · exact br_t a h
  · exact br_f a (br_t b h)
theorem yb_vi_t {post : Int32 → Prop} {c k : Nat} (ok : qp_ok p) (hc : c < qp_m p) (hk : k < qp_vc p c) (h : post 1) : wpY_isVisit post ((nI (qp_m p)), (qp_SV p), (qp_RU p), (qp_AR p), (qp_VC p), (qp_VS p), (qp_VN p), jT, bG, lV, nW) (nI c) (nI k) := by
  have hm := ok.1
  have hv := (ok.2.2 c hc).2.1
  unfold wpY_isVisit
  dsimp only
  refine yb_cu_t hm hc (br_f (by decide) (br_f (nI_pos (by omega)) ⟨vp_in_nI (by omega) (by omega), ?_⟩))
  rw [nI_clamp (by omega), qp_VCe]
  exact br_f (nI_ge hk (by omega)) h
theorem yb_vi_f {post : Int32 → Prop} {v w : Int32} (ok : qp_ok p) (hn : ¬ jx_v p v w) (h : post 0) : wpY_isVisit post ((nI (qp_m p)), (qp_SV p), (qp_RU p), (qp_AR p), (qp_VC p), (qp_VS p), (qp_VN p), jT, bG, lV, nW) v w := by
  have hm := ok.1
  unfold wpY_isVisit
  dsimp only
  by_cases a : ix_v v (qp_m p)
  · obtain ⟨c, hc, rfl⟩ := a
    have hv := (ok.2.2 c hc).2.1
    refine yb_cu_t hm hc (br_f (by decide) ?_)
    rcases ix_f (v := w) (n := qp_vc p c) (by omega) (fun z => by obtain ⟨k, hk, e⟩ := z; exact hn ⟨c, k, hc, hk, rfl, e⟩) with b | ⟨b, b'⟩
    · exact br_t b h
    · refine br_f b ⟨vp_in_nI (by omega) (by omega), ?_⟩
      rw [nI_clamp (by omega), qp_VCe]
      exact br_t b' h
  · exact yb_cu_f hm a (br_t rfl h)
theorem yq_do {post : Int32 → Prop} {s : Int32} {t kd i : Nat} (ok : qp_ok p) (Rs : qn_Rs p jT bG lV) (hi : i < 48) (ht : t ≤ 10000) (hkd : kd ≤ 2) (h1 : qy_do p s t kd i = true → post 1) (h0 : ¬ qy_do p s t kd i = true → post 0) : wpY_does post ((nI (qp_m p)), (qp_SV p), (qp_RU p), (qp_AR p), (qp_VC p), (qp_VS p), (qp_VN p), jT, bG, lV, nW) (nI i) s (nI t) (nI kd) := by
  have hm := ok.1
  have ed : nI i / 4 = nI (i / 4) := pk_div (d := 4) (by omega) (by omega) (by omega)
  have er : nI i - nI i / 4 * 4 = nI (i % 4) := pk_rem (d := 4) (by omega) (by omega) (by omega)
  have ei : (nI i).toNatClampNeg = i := nI_clamp (by omega)
  have wi : vp_in (nI i) 48 := vp_in_nI hi (by omega)
  have e4 : 4 * (i / 4) + i % 4 = i := by omega
  rw [qy_do_iff] at h1 h0
  refine ⟨by decide, by decide, ?_⟩
  rw [er, ed]
  by_cases v : i / 4 < qp_m p ∧ i % 4 < qp_vc p (i / 4)
  · obtain ⟨v1, v2⟩ := v
    obtain ⟨b1, b2, b3, b4, b5⟩ := qq_fb ok v1 v2
    obtain ⟨rj, rb⟩ := qq_RJ Rs v1 v2
    have hvn : qq_E p (4 * (i / 4) + i % 4) = qq_B p (4 * (i / 4) + i % 4) + qp_vn p (4 * (i / 4) + i % 4) := rfl
    rw [e4] at b1 b2 b3 b4 b5 rj rb hvn
    refine yb_vi_t ok v1 v2 (br_f (by decide) ⟨wi, ?_⟩)
    rw [ei, qp_VSe, rj, rb, qp_VNe, nI_add, ← hvn]
    by_cases g1 : nI (qp_vs p i) = s
    · refine br_t g1 ⟨wi, ?_⟩
      by_cases g2 : qq_J p i ≤ t
      · refine br_f (nI_nlt g2 (by omega)) ⟨wi, wi, ?_⟩
        by_cases g3 : t < qq_E p i
        · refine br_f (nI_ge g3 (by omega)) (br_f (by decide) ?_)
          by_cases k0 : kd = 0
          · exact br_t (by rw [k0]; rfl) (h1 ⟨v1, v2, g1, g2, g3, Or.inl k0⟩)
          · refine br_f (fun z => k0 ((nI_eq (b := 0) (by omega) (by omega)).mp z)) ?_
            by_cases k1 : kd = 1
            · refine br_t (by rw [k1]; rfl) ⟨wi, ?_⟩
              rw [ei, rb]
              by_cases g4 : t < qq_B p i
              · exact br_f (nI_ge g4 (by omega)) (br_t rfl (h1 ⟨v1, v2, g1, g2, g3, Or.inr (Or.inl ⟨k1, g4⟩)⟩))
              · exact br_t (nI_le (by omega) (by omega)) (br_f (by decide) (h0 (fun z => by have := z.2.2.2.2.2; omega)))
            · refine br_f (fun z => k1 ((nI_eq (b := 1) (by omega) (by omega)).mp z)) ⟨wi, ?_⟩
              rw [ei, rb]
              by_cases g4 : t < qq_B p i
              · exact br_f (nI_ge g4 (by omega)) (br_f (by decide) (h0 (fun z => by have := z.2.2.2.2.2; omega)))
              · exact br_t (nI_le (by omega) (by omega)) (br_t rfl (h1 ⟨v1, v2, g1, g2, g3, Or.inr (Or.inr ⟨by omega, by omega⟩)⟩))
        · exact br_t (nI_le (by omega) (by omega)) (br_t rfl (h0 (fun z => g3 z.2.2.2.2.1)))
      · exact br_t (nI_lt (by omega) (by omega)) (br_t rfl (h0 (fun z => g2 z.2.2.2.1)))
    · exact br_f g1 (br_t rfl (h0 (fun z => g1 z.2.2.1)))
  · refine yb_vi_f ok (fun z => ?_) (br_t rfl (br_t rfl (h0 (fun z => v ⟨z.1, z.2.1⟩))))
    obtain ⟨c, k, hc, hk, e1, e2⟩ := z
    have hv := (ok.2.2 c hc).2.1
    have f1 := (nI_eq (by omega) (by omega)).mp e1
    have f2 := (nI_eq (by omega) (by omega)).mp e2
    rw [← f1, ← f2] at hk
    rw [← f1] at hc
    exact v ⟨hc, hk⟩
theorem yq_nu_l {post : Int32 → Prop} {s : Int32} {t kd : Nat} (ok : qp_ok p) (Rs : qn_Rs p jT bG lV) (ht : t ≤ 10000) (hkd : kd ≤ 2) (h : post (nI (qy_n p s t kd))) :
    ∀ (d n i : Nat), i + d = 48 → d < n → wY_number_6 post s (nI t) (nI kd) (nI (qp_m p)) (qp_SV p) (qp_RU p) (qp_AR p) (qp_VC p) (qp_VS p) (qp_VN p) jT bG lV nW n (nI (qs_cnt (qy_do p s t kd) i)) (nI i) := by
  intro d
  induction d with
  | zero =>
    intro n i h1 h2
    obtain ⟨n, rfl⟩ : ∃ m, n = m + 1 := ⟨n - 1, by omega⟩
    rw [wY_number_6]
    have e : i = 48 := by omega
    subst e
    exact br_t (nI_le (a := 48) (b := 48) (by omega) (by omega)) h
  | succ d ih =>
    intro n i h1 h2
    obtain ⟨n, rfl⟩ : ∃ m, n = m + 1 := ⟨n - 1, by omega⟩
    rw [wY_number_6]
    have I := ih n (i + 1) (by omega) (by omega)
    refine br_f (nI_ge (b := 48) (by omega) (by decide)) (yq_do ok Rs (by omega) ht hkd (fun z => ?_) (fun z => ?_))
    · rw [qs_cnt_t z] at I
      exact br_f (by decide) (nm_r (nI_1 _) (nm_r (nI_1 i) I))
    · rw [qs_cnt_f z] at I
      exact br_t rfl (nm_r (nI_1 i) I)
theorem yq_nu {post : Int32 → Prop} {s : Int32} {t kd : Nat} (ok : qp_ok p) (Rs : qn_Rs p jT bG lV) (ht : t ≤ 10000) (hkd : kd ≤ 2) (h : post (nI (qy_n p s t kd))) : wpY_number post ((nI (qp_m p)), (qp_SV p), (qp_RU p), (qp_AR p), (qp_VC p), (qp_VS p), (qp_VN p), jT, bG, lV, nW) s (nI t) (nI kd) :=
  ⟨49, yq_nu_l ok Rs ht hkd h 48 49 0 (by omega) (by omega)⟩
theorem yq_la_l {post : Int32 → Prop} (ok : qp_ok p) (Rs : qn_Rs p jT bG lV) (h : post (nI (qq_la p))) :
    ∀ (d n c : Nat), c + d = qp_m p → d < n → wY_last_4 post (nI (qp_m p)) (qp_SV p) (qp_RU p) (qp_AR p) (qp_VC p) (qp_VS p) (qp_VN p) jT bG lV nW n (nI (qq_mx (qq_L p) c)) (nI c) := by
  have hm := ok.1
  intro d
  induction d with
  | zero =>
    intro n c h1 h2
    obtain ⟨n, rfl⟩ : ∃ m, n = m + 1 := ⟨n - 1, by omega⟩
    rw [wY_last_4]
    have ec : c = qp_m p := by omega
    subst ec
    exact br_t (nI_le (by omega) (by omega)) h
  | succ d ih =>
    intro n c h1 h2
    obtain ⟨n, rfl⟩ : ∃ m, n = m + 1 := ⟨n - 1, by omega⟩
    rw [wY_last_4]
    have hc : c < qp_m p := by omega
    have I := ih n (c + 1) (by omega) (by omega)
    have ec : (nI c).toNatClampNeg = c := nI_clamp (by omega)
    have wc : vp_in (nI c) 12 := vp_in_nI (by omega) (by omega)
    have lc : qq_L p c ≤ 1540 := (qn_R_f ok hc).1
    have lm : qq_mx (qq_L p) c ≤ 1540 := qq_mx_le (fun b hb => (qn_R_f ok (by omega)).1)
    refine br_f (nI_ge hc (by omega)) ⟨wc, ?_⟩
    rw [ec, qq_RL Rs hc]
    rw [qq_mx_s] at I
    by_cases g : qq_mx (qq_L p) c < qq_L p c
    · rw [if_pos g] at I
      exact br_f (nI_ge g (by omega)) ⟨wc, nm_e (nm_r (nI_1 c) I)⟩
    · rw [if_neg g] at I
      exact br_t (nI_le (by omega) (by omega)) (nm_r (nI_1 c) I)
theorem yq_la {post : Int32 → Prop} (ok : qp_ok p) (Rs : qn_Rs p jT bG lV) (h : post (nI (qq_la p))) : wpY_last post ((nI (qp_m p)), (qp_SV p), (qp_RU p), (qp_AR p), (qp_VC p), (qp_VS p), (qp_VN p), jT, bG, lV, nW) :=
  ⟨qp_m p + 1, yq_la_l ok Rs h (qp_m p) (qp_m p + 1) 0 (by omega) (by omega)⟩
theorem yq_ar {post : Int32 → Prop} {s e : Nat} (ok : qp_ok p) (Rs : qn_Rs p jT bG lV) (hs : s < 4) (he : e ≤ 10000) (h : post (nI (qq_ar p s e))) :
    ∀ (d n t : Nat), t + d = e → d < n → wY_area_23 post (nI s) (nI e) (nI (qp_m p)) (qp_SV p) (qp_RU p) (qp_AR p) (qp_VC p) (qp_VS p) (qp_VN p) jT bG lV nW n (nI (qq_ar p s t)) (nI t) := by
  have hl := qq_la_le ok
  intro d
  induction d with
  | zero =>
    intro n t h1 h2
    obtain ⟨n, rfl⟩ : ∃ m, n = m + 1 := ⟨n - 1, by omega⟩
    rw [wY_area_23]
    have et : t = e := by omega
    subst et
    exact br_t (nI_le (by omega) (by omega)) h
  | succ d ih =>
    intro n t h1 h2
    obtain ⟨n, rfl⟩ : ∃ m, n = m + 1 := ⟨n - 1, by omega⟩
    rw [wY_area_23]
    have I := ih n (t + 1) (by omega) (by omega)
    rw [qq_ar_s] at I
    refine br_f (nI_ge (by omega) (by omega)) (yq_la ok Rs ?_)
    by_cases g : t < qq_la p
    · refine br_f (nI_ge g (by omega)) (yq_nu (kd := 0) ok Rs (by omega) (by omega) ?_)
      rw [qy_n_s ok hs, nI_add]
      exact nm_e (nm_r (nI_1 t) I)
    · rw [qq_ar_z ok (show qq_la p ≤ e by omega), ← qq_ar_z ok (show qq_la p ≤ t by omega)] at h
      exact br_t (nI_le (by omega) (by omega)) h
theorem yq_bu {post : Int32 → Prop} {v : Int32} (ok : qp_ok p) (Rs : qn_Rs p jT bG lV) (h : ∀ s, s < 4 → v = nI s → post (nI (qq_bs p s (qq_la p)))) (h0 : ¬ ix_v v 4 → post (-1)) :
    ∀ (d n t : Nat) (x : Int32), t + d = qq_la p → d < n → (∀ s, s < 4 → v = nI s → x = nI (qq_bs p s t)) → wY_busy_4 post v (nI (qp_m p)) (qp_SV p) (qp_RU p) (qp_AR p) (qp_VC p) (qp_VS p) (qp_VN p) jT bG lV nW n x (nI t) := by
  have hl := qq_la_le ok
  intro d
  induction d with
  | zero =>
    intro n t x h1 h2 h3
    obtain ⟨n, rfl⟩ : ∃ m, n = m + 1 := ⟨n - 1, by omega⟩
    rw [wY_busy_4]
    refine yq_la ok Rs (br_t (nI_le (by omega) (by omega)) ?_)
    have et : t = qq_la p := by omega
    subst et
    by_cases a : ix_v v 4
    · obtain ⟨s, hs, rfl⟩ := a
      refine yb_st_t hs (br_f (by decide) ?_)
      rw [h3 s hs rfl]
      exact h s hs rfl
    · exact yb_st_f a (br_t rfl (h0 a))
  | succ d ih =>
    intro n t x h1 h2 h3
    obtain ⟨n, rfl⟩ : ∃ m, n = m + 1 := ⟨n - 1, by omega⟩
    rw [wY_busy_4]
    have hn : qy_n p v t 2 ≤ 48 := qs_cnt_le _ _
    refine yq_la ok Rs (br_f (nI_ge (by omega) (by omega)) (yq_nu (kd := 2) ok Rs (by omega) (by omega) ?_))
    by_cases g : 0 < qy_n p v t 2
    · refine br_f (nI_nle g (by omega)) (nm_e (nm_r (nI_1 t) (ih n (t + 1) _ (by omega) (by omega) (fun s hs e => ?_))))
      rw [h3 s hs e]
      unfold qq_bs
      rw [e, qy_n_s ok hs] at g
      rw [qs_cnt_t (decide_eq_true g), nI_1]
    · refine br_t (nI_le (b := 0) (by omega) (by omega)) (nm_r (nI_1 t) (ih n (t + 1) _ (by omega) (by omega) (fun s hs e => ?_)))
      rw [h3 s hs e]
      unfold qq_bs
      rw [e, qy_n_s ok hs] at g
      rw [qs_cnt_f (fun z => g (of_decide_eq_true z))]
theorem yq_lo {post : Int32 → Prop} {v : Int32} (ok : qp_ok p) (Rs : qn_Rs p jT bG lV) (h : ∀ s, s < 4 → v = nI s → post (nI (qq_lo p s (qq_la p)))) (h0 : ¬ ix_v v 4 → post (-1)) :
    ∀ (d n t x : Nat), t + d = qq_la p → d < n → x ≤ 48 → (∀ s, s < 4 → v = nI s → x = qq_lo p s t) → wY_longest_4 post v (nI (qp_m p)) (qp_SV p) (qp_RU p) (qp_AR p) (qp_VC p) (qp_VS p) (qp_VN p) jT bG lV nW n (nI x) (nI t) := by
  have hl := qq_la_le ok
  intro d
  induction d with
  | zero =>
    intro n t x h1 h2 hx h3
    obtain ⟨n, rfl⟩ : ∃ m, n = m + 1 := ⟨n - 1, by omega⟩
    rw [wY_longest_4]
    refine yq_la ok Rs (br_t (nI_le (by omega) (by omega)) ?_)
    have et : t = qq_la p := by omega
    subst et
    by_cases a : ix_v v 4
    · obtain ⟨s, hs, rfl⟩ := a
      refine yb_st_t hs (br_f (by decide) ?_)
      rw [h3 s hs rfl]
      exact h s hs rfl
    · exact yb_st_f a (br_t rfl (h0 a))
  | succ d ih =>
    intro n t x h1 h2 hx h3
    obtain ⟨n, rfl⟩ : ∃ m, n = m + 1 := ⟨n - 1, by omega⟩
    rw [wY_longest_4]
    have hn : qy_n p v t 1 ≤ 48 := qs_cnt_le _ _
    refine yq_la ok Rs (br_f (nI_ge (by omega) (by omega)) (yq_nu (kd := 1) ok Rs (by omega) (by omega) ?_))
    by_cases g : x < qy_n p v t 1
    · refine br_f (nI_ge g (by omega)) (nm_r (nI_1 t) (ih n (t + 1) _ (by omega) (by omega) hn (fun s hs e => ?_)))
      rw [h3 s hs e] at g
      rw [e, qy_n_s ok hs] at g ⊢
      unfold qq_lo at g ⊢
      rw [qq_mx_s, if_pos g]
    · refine br_t (nI_le (by omega) (by omega)) (nm_r (nI_1 t) (ih n (t + 1) _ (by omega) (by omega) hx (fun s hs e => ?_)))
      rw [h3 s hs e] at g ⊢
      rw [e, qy_n_s ok hs] at g
      unfold qq_lo at g ⊢
      rw [qq_mx_s, if_neg g]
theorem yq_or_i {post : Int32 → Prop} {J2 : _} {v : Int32} {c : Nat} (ok : qp_ok p) (Rs : qn_Rs p jT bG lV) (hc : c < qp_m p) (h : nI (qq_be p c) = v → post (nI c)) (hJ : ¬ nI (qq_be p c) = v → J2 (nI (c + 1))) :
    ∀ (d n b : Nat), b + d = qp_m p → d < n → wY_order_15 post J2 v (nI c) (nI (qp_m p)) (qp_SV p) (qp_RU p) (qp_AR p) (qp_VC p) (qp_VS p) (qp_VN p) jT bG lV nW n (nI (qs_cnt (qq_bb p c) b)) (nI b) := by
  have hm := ok.1
  intro d
  induction d with
  | zero =>
    intro n b h1 h2
    obtain ⟨n, rfl⟩ : ∃ m, n = m + 1 := ⟨n - 1, by omega⟩
    rw [wY_order_15]
    have eb : b = qp_m p := by omega
    subst eb
    exact br_t (nI_le (by omega) (by omega)) (br_c (fun z => h z) (fun z => nm_r (nI_1 c) (hJ z)))
  | succ d ih =>
    intro n b h1 h2
    obtain ⟨n, rfl⟩ : ∃ m, n = m + 1 := ⟨n - 1, by omega⟩
    rw [wY_order_15]
    have hb : b < qp_m p := by omega
    have I := ih n (b + 1) (by omega) (by omega)
    have ec : (nI c).toNatClampNeg = c := nI_clamp (by omega)
    have eb : (nI b).toNatClampNeg = b := nI_clamp (by omega)
    have wc : vp_in (nI c) 12 := vp_in_nI (by omega) (by omega)
    have wb : vp_in (nI b) 12 := vp_in_nI (by omega) (by omega)
    have lc : qq_L p c ≤ 1540 := (qn_R_f ok hc).1
    have lb : qq_L p b ≤ 1540 := (qn_R_f ok hb).1
    have rc := qq_RL Rs hc
    have rb := qq_RL Rs hb
    refine br_f (nI_ge hb (by omega)) ⟨wb, wc, ?_⟩
    rw [eb, ec, rb, rc]
    by_cases g1 : qq_L p b < qq_L p c
    · have t : qq_bb p c b = true := decide_eq_true (Or.inl g1)
      rw [qs_cnt_t t] at I
      exact br_t (nI_lt g1 (by omega)) (nm_r (nI_1 _) (nm_r (nI_1 b) I))
    · refine br_f (nI_nlt (by omega) (by omega)) ⟨wb, wc, ?_⟩
      by_cases g2 : qq_L p b = qq_L p c
      · refine br_t (by rw [g2]) ?_
        by_cases g3 : b < c
        · have t : qq_bb p c b = true := decide_eq_true (Or.inr ⟨g2, g3⟩)
          rw [qs_cnt_t t] at I
          exact br_f (nI_ge g3 (by omega)) (nm_r (nI_1 _) (nm_r (nI_1 b) I))
        · have t : ¬ qq_bb p c b = true := fun z => by have := of_decide_eq_true z; omega
          rw [qs_cnt_f t] at I
          exact br_t (nI_le (by omega) (by omega)) (nm_r (nI_1 b) I)
      · have t : ¬ qq_bb p c b = true := fun z => by have := of_decide_eq_true z; omega
        rw [qs_cnt_f t] at I
        exact br_f (fun z => g2 ((nI_eq (by omega) (by omega)).mp z)) (nm_r (nI_1 b) I)
theorem yq_or_o {post : Int32 → Prop} {v : Int32} (ok : qp_ok p) (Rs : qn_Rs p jT bG lV) (h : ∀ r, qq_or p v (qp_m p) r → post r) :
    ∀ (d n c : Nat), c + d = qp_m p → d < n → qq_or p v c (-1) → wY_order_2 post v (nI (qp_m p)) (qp_SV p) (qp_RU p) (qp_AR p) (qp_VC p) (qp_VS p) (qp_VN p) jT bG lV nW n (nI c) := by
  have hm := ok.1
  intro d
  induction d with
  | zero =>
    intro n c h1 h2 h3
    obtain ⟨n, rfl⟩ : ∃ m, n = m + 1 := ⟨n - 1, by omega⟩
    rw [wY_order_2]
    have ec : c = qp_m p := by omega
    subst ec
    exact br_t (nI_le (by omega) (by omega)) (h _ h3)
  | succ d ih =>
    intro n c h1 h2 h3
    obtain ⟨n, rfl⟩ : ∃ m, n = m + 1 := ⟨n - 1, by omega⟩
    rw [wY_order_2]
    have hc : c < qp_m p := by omega
    exact br_f (nI_ge hc (by omega)) ⟨qp_m p + 1, yq_or_i ok Rs hc (fun z => h _ (Or.inl ⟨c, hc, z, rfl⟩)) (fun z => ih n (c + 1) (by omega) (by omega) (qq_or_n z h3)) (qp_m p) (qp_m p + 1) 0 (by omega) (by omega)⟩
theorem yq_or {post : Int32 → Prop} {v : Int32} (ok : qp_ok p) (Rs : qn_Rs p jT bG lV) (h : ∀ r, qq_or p v (qp_m p) r → post r) : wpY_order post ((nI (qp_m p)), (qp_SV p), (qp_RU p), (qp_AR p), (qp_VC p), (qp_VS p), (qp_VN p), jT, bG, lV, nW) v :=
  ⟨qp_m p + 1, yq_or_o ok Rs h (qp_m p) (qp_m p + 1) 0 (by omega) (by omega) (Or.inr ⟨rfl, fun b hb => absurd hb (by omega)⟩)⟩
end YA
