def qn_Ka (p : qp_T) (t : Nat) (S : qn_S) : Prop := ∀ c, c < qp_m p → qn_K p t S c
def qn_F (p : qp_T) (S : qn_S) : Prop := ∀ s, s < 4 → qn_nsg p S s ≤ qp_sv p s
def qn_U (p : qp_T) (S : qn_S) : Prop := ∀ c, c < qp_m p → qn_ph S c = 2 → qn_en p S c + 30 * qn_Psi p S ≤ 1540
def qn_N (p : qp_T) (t : Nat) (S : qn_S) : Prop := ∀ c, c < qp_m p → qn_hs S c = true → t ≤ qn_tm p S c
def qn_se (p : qp_T) (S : qn_S) : Prop := ∀ s, s < 4 → qn_bl p S s
-- in the midst of time t, nothing to come before n
def qn_Q (p : qp_T) (t n : Nat) (S : qn_S) : Prop := qn_Ka p t S ∧ qn_F p S ∧ qn_U p S ∧ t + 30 * qn_Psi p S ≤ 1540 ∧ qn_N p n S
-- when the times before t are done
def qn_A (p : qp_T) (t : Nat) (S : qn_S) : Prop := qn_Ka p (min t 1540) S ∧ qn_F p S ∧ qn_U p S ∧ qn_N p t S ∧ qn_se p S
theorem qn_wfa {p : qp_T} {t : Nat} {S : qn_S} (h : qn_Ka p t S) : ∀ c, c < qp_m p → qn_wf p S c := fun c hc => (h c hc).1
theorem qn_cu4 {p : qp_T} {t : Nat} {S : qn_S} (ok : qp_ok p) (h : qn_Ka p t S) {c : Nat} (hc : c < qp_m p) (h1 : qn_ph S c = 1 ∨ qn_ph S c = 2) : qn_cu S c < qp_vc p c ∧ qn_cu S c < 4 := by
  have w := (h c hc).1
  have hv := (ok.2.2 c hc).2.1
  unfold qn_wf at w
  omega
theorem qn_Q_beg {p : qp_T} {t : Nat} {S : qn_S} {s c : Nat} (ok : qp_ok p) (hs : s < 4) (Q : qn_Q p t (t + 1) S) (hn : qn_nsg p S s < qp_sv p s) (hp : qn_pk p S s (qp_m p) = some c) : qn_Q p t (t + 1) (qn_beg t S c) := by
  obtain ⟨q1, q2, q3, q4, q5⟩ := Q
  obtain ⟨hc, hw⟩ := qn_pk_y hp
  rw [qn_wt_iff] at hw
  have hcu := qn_cu4 ok q1 hc (Or.inl hw.1)
  have okc := ok.2.2 c hc
  have hPsi := qn_Psi_beg (t := t) hc hw.1 hcu.1
  have hvn := okc.2.2 (qn_cu S c) hcu.1
  have hvn' : 1 ≤ qp_vn p (qn_v S c) ∧ qp_vn p (qn_v S c) ≤ 30 := hvn.2
  refine ⟨fun d hd => qn_K_beg okc.2.1 hw.1 hcu.1 (q1 d hd), fun r hr => ?_, fun d hd h2 => ?_, by omega, fun d hd hh => ?_⟩
  · by_cases e : qp_vs p (qn_v S c) = r
    · rw [qn_nsg_beg hc hw.1 e]
      have : s = r := by rw [← hw.2, e]
      subst this
      omega
    · rw [qn_nsg_begn hw.1 e]; exact q2 r hr
  · by_cases e : d = c
    · subst e; rw [qn_begy_en]; omega
    · rw [qn_begn_ph e] at h2
      rw [qn_begn_en e (qn_cu4 ok q1 hd (Or.inr h2)).2 hcu.2]
      have := q3 d hd h2
      omega
  · by_cases e : d = c
    · subst e; rw [qn_tm_2 qn_begy_ph, qn_begy_en]; omega
    · rw [qn_hs_iff, qn_begn_ph e] at hh
      have h0 := q5 d hd (qn_hs_iff.mpr hh)
      rcases hh with h | h
      · rw [qn_tm_0 (by rw [qn_begn_ph e]; exact h)]
        rw [qn_tm_0 h] at h0
        exact h0
      · rw [qn_tm_2 (by rw [qn_begn_ph e]; exact h), qn_begn_en e (qn_cu4 ok q1 hd (Or.inr h)).2 hcu.2]
        rw [qn_tm_2 h] at h0
        exact h0
theorem qn_Q_fl {p : qp_T} {t : Nat} {S : qn_S} {s : Nat} (ok : qp_ok p) (hs : s < 4) (n : Nat) (Q : qn_Q p t (t + 1) S) : qn_Q p t (t + 1) (qn_fl p t s n S) :=
  qn_fl_ind (Q := fun R => qn_Q p t (t + 1) R) (fun _ _ hR hn hp => qn_Q_beg ok hs hR hn hp) n S Q
theorem qn_fl_e {p : qp_T} {t s : Nat} (ok : qp_ok p) (hs : s < 4) (S : qn_S) : qn_bl p (qn_fl p t s 3 S) s :=
  qn_fl_bl 3 S (by have := (ok.2.1 s hs).2.1; omega)
theorem qn_f4_se {p : qp_T} {t : Nat} (ok : qp_ok p) (S : qn_S) : qn_se p (qn_f4 p t S) := by
  have h0 := qn_fl_e (t := t) ok (by omega : 0 < 4) S
  have h1 := qn_fl_e (t := t) ok (by omega : 1 < 4) (qn_fl p t 0 3 S)
  have h2 := qn_fl_e (t := t) ok (by omega : 2 < 4) (qn_fl p t 1 3 (qn_fl p t 0 3 S))
  have h3 := qn_fl_e (t := t) ok (by omega : 3 < 4) (qn_fl p t 2 3 (qn_fl p t 1 3 (qn_fl p t 0 3 S)))
  have g0 := qn_bl_fl (t := t) (s := 3) 3 (by omega) (qn_bl_fl (t := t) (s := 2) 3 (by omega) (qn_bl_fl (t := t) (s := 1) 3 (by omega) h0))
  have g1 := qn_bl_fl (t := t) (s := 3) 3 (by omega) (qn_bl_fl (t := t) (s := 2) 3 (by omega) h1)
  have g2 := qn_bl_fl (t := t) (s := 3) 3 (by omega) h2
  intro s hs
  have e : s = 0 ∨ s = 1 ∨ s = 2 ∨ s = 3 := by omega
  rcases e with e | e | e | e
  · rw [e]; exact g0
  · rw [e]; exact g1
  · rw [e]; exact g2
  · rw [e]; exact h3
theorem qn_f4_b {p : qp_T} {t : Nat} {S : qn_S} (h : qn_se p S) : qn_f4 p t S = S := by
  unfold qn_f4
  rw [qn_fl_b (h 0 (by omega)), qn_fl_b (h 1 (by omega)), qn_fl_b (h 2 (by omega)), qn_fl_b (h 3 (by omega))]
theorem qn_quiet {p : qp_T} {t : Nat} {S : qn_S} (h : qn_se p S) (hn : ∀ c, ¬ qn_fi p t S c = true) : qn_st p t S = S := by
  unfold qn_st
  rw [qn_ev_none (fun c => Bool.eq_false_iff.mpr (hn c)), qn_f4_b h]
-- the midst: some of those that fire at t have fired
theorem qn_mid {p : qp_T} {t : Nat} {S : qn_S} {D : Nat → Bool} (ok : qp_ok p) (A : qn_A p t S) (hD : ∀ c, D c = true → qn_fi p t S c = true) {c0 : Nat} (h0 : qn_fi p t S c0 = true) : qn_Q p t t (qn_ev p t D S) := by
  obtain ⟨a1, a2, a3, a4, a5⟩ := A
  have hPsi := qn_Psi_ev (t := t) (qn_wfa a1) (fun c hc => (qn_fi_iff.mp (hD c hc)).2.1)
  have hb : t + 30 * qn_Psi p S ≤ 1540 := by
    obtain ⟨f1, f2, f3⟩ := qn_fi_iff.mp h0
    rcases qn_hs_iff.mp f2 with e | e
    · rw [qn_tm_0 e] at f3
      have := (ok.2.2 c0 f1).1
      have := qn_Psi_le (S := S) ok
      omega
    · rw [qn_tm_2 e] at f3
      have := a3 c0 f1 e
      omega
  refine ⟨fun c hc => ?_, fun s hs => ?_, fun c hc h2 => ?_, by rw [hPsi]; exact hb, fun c hc hh => ?_⟩
  · refine qn_K_ev (ok.2.2 c hc).2.1 (qn_K_mono (by omega) (a1 c hc)) (fun d => ?_)
    exact (qn_fi_iff.mp (hD c d)).2
  · exact Nat.le_trans qn_nsg_ev (a2 s hs)
  · have d : ¬ D c = true := by
      intro d
      rw [qn_evy_ph d] at h2
      by_cases f : qn_nk S c = qp_vc p c
      · rw [if_pos f] at h2; omega
      · rw [if_neg f] at h2; omega
    rw [qn_evn_ph d] at h2
    rw [hPsi, qn_evn_en d]
    exact a3 c hc h2
  · have d : ¬ D c = true := by
      intro d
      rw [qn_evy_hs d] at hh
      exact absurd hh (by decide)
    rw [qn_evn_hs d] at hh
    rw [qn_evn_tm d]
    exact a4 c hc hh
theorem qn_mid1 {p : qp_T} {t : Nat} {S : qn_S} (ok : qp_ok p) (A : qn_A p t S) {c0 : Nat} (h0 : qn_fi p t S c0 = true) : qn_Q p t (t + 1) (qn_ev p t (qn_fi p t S) S) := by
  obtain ⟨q1, q2, q3, q4, q5⟩ := qn_mid ok A (D := qn_fi p t S) (fun _ h => h) h0
  refine ⟨q1, q2, q3, q4, fun c hc hh => ?_⟩
  have h5 := q5 c hc hh
  have d : ¬ qn_fi p t S c = true := by
    intro d
    rw [qn_evy_hs d] at hh
    exact absurd hh (by decide)
  rw [qn_evn_tm d] at h5 ⊢
  rw [qn_evn_hs d] at hh
  have : qn_tm p S c ≠ t := fun z => d (qn_fi_iff.mpr ⟨hc, hh, z⟩)
  omega
theorem qn_A_st {p : qp_T} {t : Nat} {S : qn_S} (ok : qp_ok p) (A : qn_A p t S) : qn_A p (t + 1) (qn_st p t S) := by
  by_cases ex : ∃ c, qn_fi p t S c = true
  · obtain ⟨c0, h0⟩ := ex
    have Q1 := qn_mid1 ok A h0
    have Q2 := qn_Q_fl ok (by omega : 3 < 4) 3 (qn_Q_fl ok (by omega : 2 < 4) 3 (qn_Q_fl ok (by omega : 1 < 4) 3 (qn_Q_fl ok (by omega : 0 < 4) 3 Q1)))
    obtain ⟨q1, q2, q3, q4, q5⟩ := Q2
    refine ⟨fun c hc => qn_K_mono ?_ (q1 c hc), q2, q3, q5, qn_f4_se ok _⟩
    omega
  · have hn : ∀ c, ¬ qn_fi p t S c = true := fun c z => ex ⟨c, z⟩
    obtain ⟨a1, a2, a3, a4, a5⟩ := A
    rw [qn_quiet a5 hn]
    refine ⟨fun c hc => qn_K_mono (by omega) (a1 c hc), a2, a3, fun c hc hh => ?_, a5⟩
    have := a4 c hc hh
    have : qn_tm p S c ≠ t := fun z => hn c (qn_fi_iff.mpr ⟨hc, hh, z⟩)
    omega
theorem qn_0_ph (c : Nat) : qn_ph qn_0 c = 0 := rfl
theorem qn_nsg_0 {p : qp_T} {s : Nat} : qn_nsg p qn_0 s = 0 := by
  have h : ∀ m, qs_cnt (qn_sg p qn_0 s) m = 0 := by
    intro m
    induction m with
    | zero => rfl
    | succ m ih =>
      rw [qs_cnt_f, ih]
      intro z
      have := (qn_sg_iff.mp z).1
      rw [qn_0_ph] at this
      omega
  exact h _
theorem qn_A_0 {p : qp_T} : qn_A p 0 qn_0 := by
  refine ⟨fun c hc => ⟨Or.inl ⟨rfl, rfl⟩, fun k hk hj => Nat.zero_le _, fun k hk hb => ?_, fun k hk hl => ?_, fun e => ?_⟩, fun s hs => ?_, fun c hc h2 => ?_, fun c hc hh => Nat.zero_le _, fun s hs z => ?_⟩
  · exact ⟨Nat.le_refl _, Nat.zero_le _⟩
  · exact absurd hl (Nat.not_lt_zero k)
  · rw [qn_0_ph] at e; omega
  · rw [qn_nsg_0]; exact Nat.zero_le _
  · rw [qn_0_ph] at h2; omega
  · refine qn_pk_none (fun d _ w => ?_)
    have := (qn_wt_iff.mp w).1
    rw [qn_0_ph] at this
    omega
theorem qn_A_ps {p : qp_T} (ok : qp_ok p) : ∀ t, qn_A p t (qn_ps p t)
  | 0 => qn_A_0
  | t + 1 => qn_A_st ok (qn_A_ps ok t)
-- nobody has an event to come: all have left
theorem qn_all3 {p : qp_T} {t : Nat} {S : qn_S} (ok : qp_ok p) (K : qn_Ka p t S) (hse : qn_se p S) (hn : ∀ c, c < qp_m p → ¬ qn_hs S c = true) : ∀ c, c < qp_m p → qn_ph S c = 3 := by
  intro c hc
  have w := (K c hc).1
  have h1 := hn c hc
  rw [qn_hs_iff] at h1
  by_cases e : qn_ph S c = 1
  · exfalso
    have hcu := qn_cu4 ok K hc (Or.inl e)
    have hs := ((ok.2.2 c hc).2.2 _ hcu.1).1
    have hz : qn_nsg p S (qp_vs p (qn_v S c)) = 0 := by
      rcases Nat.eq_zero_or_pos (qn_nsg p S (qp_vs p (qn_v S c))) with z | z
      · exact z
      · exfalso
        have hall : ∀ d, d < qp_m p → qn_sg p S (qp_vs p (qn_v S c)) d = false := by
          intro d hd
          refine decide_eq_false (fun y => hn d hd (qn_hs_iff.mpr (Or.inr y.1)))
        have := qs_cnt_z (b := qn_sg p S (qp_vs p (qn_v S c))) (a := 0) (m := qp_m p) (Nat.zero_le _) (fun i _ hi => hall i hi)
        have e0 : qs_cnt (qn_sg p S (qp_vs p (qn_v S c))) 0 = 0 := rfl
        unfold qn_nsg at z
        omega
    have hsv := (ok.2.1 _ hs).1
    have hb := hse _ hs (by show qn_nsg p S (qp_vs p (qn_v S c)) < qp_sv p (qp_vs p (qn_v S c)); have : 1 ≤ qp_sv p (qp_vs p (qn_v S c)) := hsv; omega)
    exact qn_pk_n hb c hc (qn_wt_iff.mpr ⟨e, rfl⟩)
  · unfold qn_wf at w; omega
theorem qn_stay {p : qp_T} {t n : Nat} (hse : qn_se p (qn_ps p t)) (h : ∀ r c, t ≤ r → r < n → ¬ qn_fi p r (qn_ps p t) c = true) : ∀ r, t ≤ r → r ≤ n → qn_ps p r = qn_ps p t := by
  intro r
  induction r with
  | zero => intro h1 _; have : t = 0 := by omega
            rw [this]
  | succ r ih =>
    intro h1 h2
    by_cases e : t = r + 1
    · rw [e]
    · have i := ih (by omega) (by omega)
      show qn_st p r (qn_ps p r) = _
      rw [i]
      exact qn_quiet hse (fun c => h r c (by omega) (by omega))
-- once all have left nothing happens any more
theorem qn_done {p : qp_T} {t : Nat} (ok : qp_ok p) (h : ∀ c, c < qp_m p → qn_ph (qn_ps p t) c = 3) {r : Nat} (hr : t ≤ r) : qn_ps p r = qn_ps p t := by
  refine qn_stay (n := r) (qn_A_ps ok t).2.2.2.2 (fun q c _ _ z => ?_) r hr (Nat.le_refl r)
  obtain ⟨f1, f2, f3⟩ := qn_fi_iff.mp z
  have := h c f1
  rw [qn_hs_iff] at f2
  omega
theorem qn_tm_le {p : qp_T} {S : qn_S} (ok : qp_ok p) (u : qn_U p S) {c : Nat} (hc : c < qp_m p) (h : qn_hs S c = true) : qn_tm p S c ≤ 1540 := by
  rcases qn_hs_iff.mp h with e | e
  · rw [qn_tm_0 e]; have := (ok.2.2 c hc).1; omega
  · rw [qn_tm_2 e]; have := u c hc e; omega
theorem qn_gone {p : qp_T} (ok : qp_ok p) {t : Nat} (ht : 1541 ≤ t) : ∀ c, c < qp_m p → qn_ph (qn_ps p t) c = 3 := by
  obtain ⟨a1, a2, a3, a4, a5⟩ := qn_A_ps ok t
  refine qn_all3 ok a1 a5 (fun c hc hh => ?_)
  have h1 := a4 c hc hh
  have h2 := qn_tm_le ok a3 hc hh
  omega
-- what is found in the end
def qn_R (p : qp_T) : qn_S := qn_ps p 2000
theorem qn_R_of {p : qp_T} (ok : qp_ok p) {t : Nat} (ht : t ≤ 2000) (h : ∀ c, c < qp_m p → qn_ph (qn_ps p t) c = 3) : qn_ps p t = qn_R p := (qn_done ok h ht).symm
def qn_Rs (p : qp_T) (jt bg lv : Nat → Int32) : Prop :=
  ∀ c, c < qp_m p → lv c = nI (qn_L (qn_R p) c) ∧ ∀ k, k < qp_vc p c → jt (4 * c + k) = nI (qn_J (qn_R p) (4 * c + k)) ∧ bg (4 * c + k) = nI (qn_B (qn_R p) (4 * c + k))
-- times found so far
def qn_Tm (p : qp_T) (S : qn_S) (jt bg lv : Nat → Int32) : Prop :=
  ∀ c, c < qp_m p → (∀ k, k < 4 → qn_jd S c k → jt (4 * c + k) = nI (qn_J S (4 * c + k))) ∧ (∀ k, k < 4 → qn_bd S c k → bg (4 * c + k) = nI (qn_B S (4 * c + k))) ∧ (qn_ph S c = 3 → lv c = nI (qn_L S c))
theorem qn_Tm_R {p : qp_T} {jt bg lv : Nat → Int32} (ok : qp_ok p) {t : Nat} (ht : t ≤ 2000) (h : ∀ c, c < qp_m p → qn_ph (qn_ps p t) c = 3) (T : qn_Tm p (qn_ps p t) jt bg lv) : qn_Rs p jt bg lv := by
  intro c hc
  have hv := (ok.2.2 c hc).2.1
  obtain ⟨t1, t2, t3⟩ := T c hc
  have w := (qn_A_ps ok t).1 c hc |>.1
  have h3 := h c hc
  have hcu : qn_cu (qn_ps p t) c = qp_vc p c := by unfold qn_wf at w; omega
  rw [← qn_R_of ok ht h]
  refine ⟨t3 h3, fun k hk => ⟨t1 k (by omega) (Or.inl (by omega)), t2 k (by omega) (Or.inl (by omega))⟩⟩
theorem qn_R_f {p : qp_T} (ok : qp_ok p) {c : Nat} (hc : c < qp_m p) : qn_L (qn_R p) c ≤ 1540 ∧ ∀ k, k < qp_vc p c → qn_J (qn_R p) (4 * c + k) ≤ qn_B (qn_R p) (4 * c + k) ∧ qn_B (qn_R p) (4 * c + k) + qp_vn p (4 * c + k) ≤ qn_L (qn_R p) c := by
  have h3 := qn_gone ok (t := 2000) (by omega) c hc
  obtain ⟨k1, k2, k3, k4, k5⟩ := (qn_A_ps ok 2000).1 c hc
  have hv := (ok.2.2 c hc).2.1
  have hcu : qn_cu (qn_ps p 2000) c = qp_vc p c := by unfold qn_wf at k1; omega
  have e5 := k5 h3
  refine ⟨by have := e5.1; unfold qn_R; omega, fun k hk => ⟨(k3 k (by omega) (Or.inl (by omega))).1, e5.2 k (by omega) hk⟩⟩
