-- X: a run's start
theorem qx_R0 {p : qp_T} {cv wa fr jt bg lv : Nat → Int32} (h1 : ∀ c, c < qp_m p → cv c = nI (4 * c)) (h2 : ∀ c, c < qp_m p → wa c = -1) (h3 : ∀ s, s < 4 → fr s = nI (qp_sv p s)) : qx_R p qn_0 cv wa fr jt bg lv := by
  refine ⟨fun c hc => h1 c hc, fun c hc => ?_, fun s hs => ⟨qp_sv p s, h3 s hs, by rw [qn_nsg_0]; rfl⟩, fun c hc => ⟨fun k hk hj => ?_, fun k hk hb => ?_, fun e => ?_⟩⟩
  · rw [h2 c hc, qn_0_ph]; rfl
  · unfold qn_jd at hj; rw [qn_0_ph] at hj; have e : qn_cu qn_0 c = 0 := rfl; rw [e] at hj; omega
  · unfold qn_bd at hb; rw [qn_0_ph] at hb; have e : qn_cu qn_0 c = 0 := rfl; rw [e] at hb; omega
  · rw [qn_0_ph] at e; omega
def qx_Pi (p : qp_T) (i : Nat) : Nat → Prop := fun e => ∃ c, c < i ∧ e = qp_ar p c * 32 + 16 + c
theorem qx_Pi_0 {p : qp_T} (e : Nat) : ¬ qx_Pi p 0 e := fun z => by obtain ⟨c, hc, _⟩ := z; omega
theorem qx_Pi_s {p : qp_T} {i : Nat} (hi : i < 12) : qx_Pi p (i + 1) = (fun e => qx_Pi p i e ∨ e = qp_ar p i * 32 + 16 + i) ∧ ¬ qx_Pi p i (qp_ar p i * 32 + 16 + i) := by
  constructor
  · funext e
    refine propext ⟨fun z => ?_, fun z => ?_⟩
    · obtain ⟨c, hc, he⟩ := z
      by_cases f : c = i
      · subst f; exact Or.inr he
      · exact Or.inl ⟨c, by omega, he⟩
    · rcases z with ⟨c, hc, he⟩ | z
      · exact ⟨c, by omega, he⟩
      · exact ⟨i, by omega, z⟩
  · rintro ⟨c, hc, he⟩
    omega
theorem qx_Pi_m {p : qp_T} : qx_Pi p (qp_m p) = qn_P p qn_0 := by
  have hn : ∀ c, qn_num p qn_0 c = qp_ar p c * 32 + 16 + c := fun c => by
    unfold qn_num qn_mk
    rw [qn_tm_0 (qn_0_ph c), qn_0_ph, if_pos rfl]
    omega
  funext e
  refine propext ⟨fun z => ?_, fun z => ?_⟩
  · obtain ⟨c, hc, he⟩ := z
    exact ⟨c, hc, qn_hs_iff.mpr (Or.inl rfl), by rw [hn]; exact he⟩
  · obtain ⟨c, hc, _, he⟩ := z
    exact ⟨c, hc, by rw [← hn]; exact he⟩
theorem qx_Pi_lt {p : qp_T} (ok : qp_ok p) {i : Nat} (hi : i ≤ qp_m p) : ∀ x, qx_Pi p i x → x < 49312 := by
  rintro x ⟨c, hc, he⟩
  have h1 := (ok.2.2 c (by omega)).1
  have h2 := ok.1
  omega
theorem qn_nh_0 {p : qp_T} : qn_nh p qn_0 = qp_m p := by
  have h : qn_nh p qn_0 = qs_cnt (fun _ => true) (qp_m p) := qs_cnt_ext (fun c _ => qn_hs_iff.mpr (Or.inl rfl))
  rw [h, qq_cnt_all]
-- the reference
def qy_nw (S : qn_S) (c : Nat) : Nat := if qn_ph S c = 0 then 4 else if qn_ph S c = 3 then 5 else qn_cu S c
theorem qy_nw_0 {S : qn_S} {c : Nat} (h : qn_ph S c = 0) : qy_nw S c = 4 := by unfold qy_nw; rw [if_pos h]
theorem qy_nw_3 {S : qn_S} {c : Nat} (h : qn_ph S c = 3) : qy_nw S c = 5 := by unfold qy_nw; rw [if_neg (by omega), if_pos h]
theorem qy_nw_i {S : qn_S} {c : Nat} (h : qn_ph S c = 1 ∨ qn_ph S c = 2) : qy_nw S c = qn_cu S c := by unfold qy_nw; rw [if_neg (by omega), if_neg (by omega)]
def qy_R (p : qp_T) (S : qn_S) (nw jt bg lv : Nat → Int32) : Prop :=
  (∀ c, c < qp_m p → nw c = nI (qy_nw S c)) ∧ (∀ c, c < qp_m p → qn_ph S c = 1 → bg (qn_v S c) = -1) ∧ qn_Tm p S jt bg lv
theorem qy_R0 {p : qp_T} {nw jt bg lv : Nat → Int32} (h1 : ∀ c, c < qp_m p → nw c = nI 4) : qy_R p qn_0 nw jt bg lv := by
  refine ⟨fun c hc => h1 c hc, fun c hc h => ?_, fun c hc => ⟨fun k hk hj => ?_, fun k hk hb => ?_, fun e => ?_⟩⟩
  · rw [qn_0_ph] at h; omega
  · unfold qn_jd at hj; rw [qn_0_ph] at hj; have e : qn_cu qn_0 c = 0 := rfl; rw [e] at hj; omega
  · unfold qn_bd at hb; rw [qn_0_ph] at hb; have e : qn_cu qn_0 c = 0 := rfl; rw [e] at hb; omega
  · rw [qn_0_ph] at e; omega
-- one leaves for good
theorem qy_R_lv {p : qp_T} {t r c : Nat} {S : qn_S} {nw jt bg lv : Nat → Int32} (ok : qp_ok p) (K : qn_Ka p r S) (hc : c < qp_m p) (hh : qn_hs S c = true) (hn : qn_nk S c = qp_vc p c) (R : qy_R p S nw jt bg lv) : qy_R p (qn_ev p t (qn_one c) S) (upd nw c (nI 5)) jt bg (upd lv c (nI t)) := by
  obtain ⟨r1, r2, r3⟩ := R
  refine ⟨fun d hd => ?_, fun d hd h => ?_, qn_Tm_ev hc (K c hc).1 hh (ok.2.2 c hc).2.1 r3 (fun _ _ _ _ _ => rfl) (fun z => absurd hn z) (fun _ _ _ _ _ => rfl) (fun d hd z => pk_un (fun y => z ⟨y, hn⟩)) (fun _ => pk_us)⟩
  · by_cases e : d = c
    · subst e
      have h3 : qn_ph (qn_ev p t (qn_one d) S) d = 3 := by rw [qn_evy_ph (qn_one_s d), if_pos hn]
      rw [pk_us, qy_nw_3 h3]
    · rw [pk_un e, r1 d hd]
      unfold qy_nw
      rw [qn_evn_ph (qn_one_n e), qn_evn_cu (qn_one_n e)]
  · by_cases e : d = c
    · subst e
      rw [qn_evy_ph (qn_one_s d), if_pos hn] at h; omega
    · rw [qn_evn_ph (qn_one_n e)] at h
      rw [qn_evn_v (qn_one_n e)]
      exact r2 d hd h
-- one joins its next station
theorem qy_R_jo {p : qp_T} {t r c : Nat} {S : qn_S} {nw jt bg lv : Nat → Int32} (ok : qp_ok p) (K : qn_Ka p r S) (hc : c < qp_m p) (hh : qn_hs S c = true) (hn : ¬ qn_nk S c = qp_vc p c) (R : qy_R p S nw jt bg lv) : qy_R p (qn_ev p t (qn_one c) S) (upd nw c (nI (qn_nk S c))) (upd jt (4 * c + qn_nk S c) (nI t)) (upd bg (4 * c + qn_nk S c) (-1)) lv := by
  obtain ⟨r1, r2, r3⟩ := R
  have hle := qn_nk_le (K c hc).1 hh
  have hv := (ok.2.2 c hc).2.1
  have hu : ∀ d k, k < 4 → ¬ (d = c ∧ qn_nk S c ≠ qp_vc p c ∧ k = qn_nk S c) → 4 * d + k ≠ 4 * c + qn_nk S c := by
    intro d k hk z y
    have e : d = c := by omega
    exact z ⟨e, hn, by omega⟩
  refine ⟨fun d hd => ?_, fun d hd h => ?_, qn_Tm_ev hc (K c hc).1 hh hv r3 (fun d k _ hk z => pk_un (hu d k hk z)) (fun _ => pk_us) (fun d k _ hk z => pk_un (hu d k hk z)) (fun _ _ _ => rfl) (fun z => absurd z hn)⟩
  · by_cases e : d = c
    · subst e
      have h1 : qn_ph (qn_ev p t (qn_one d) S) d = 1 := by rw [qn_evy_ph (qn_one_s d), if_neg hn]
      rw [pk_us, qy_nw_i (Or.inl h1), qn_evy_cu (qn_one_s d)]
    · rw [pk_un e, r1 d hd]
      unfold qy_nw
      rw [qn_evn_ph (qn_one_n e), qn_evn_cu (qn_one_n e)]
  · by_cases e : d = c
    · subst e
      have hv' : qn_v (qn_ev p t (qn_one d) S) d = 4 * d + qn_nk S d := by unfold qn_v; rw [qn_evy_cu (qn_one_s d)]
      rw [hv', pk_us]
    · rw [qn_evn_ph (qn_one_n e)] at h
      have hcu := qn_cu4 ok K hd (Or.inl h)
      rw [qn_evn_v (qn_one_n e), pk_un (by unfold qn_v; omega)]
      exact r2 d hd h
theorem qy_R_beg {p : qp_T} {t r c : Nat} {S : qn_S} {nw jt bg lv : Nat → Int32} (ok : qp_ok p) (K : qn_Ka p r S) (hc : c < qp_m p) (h1 : qn_ph S c = 1) (R : qy_R p S nw jt bg lv) : qy_R p (qn_beg t S c) nw jt (upd bg (qn_v S c) (nI t)) lv := by
  obtain ⟨r1, r2, r3⟩ := R
  have hcu := qn_cu4 ok K hc (Or.inl h1)
  refine ⟨fun d hd => ?_, fun d hd h => ?_, qn_Tm_beg ok K hc h1 r3⟩
  · rw [r1 d hd]
    by_cases e : d = c
    · subst e; rw [qy_nw_i (Or.inl h1), qy_nw_i (Or.inr qn_begy_ph), qn_beg_cu]
    · unfold qy_nw; rw [qn_begn_ph e, qn_beg_cu]
  · by_cases e : d = c
    · subst e; rw [qn_begy_ph] at h; omega
    · rw [qn_begn_ph e] at h
      have hcd := qn_cu4 ok K hd (Or.inl h)
      rw [qn_beg_v, pk_un (by unfold qn_v; omega)]
      exact r2 d hd h
-- how many have not left yet
def qy_lf (p : qp_T) (S : qn_S) : Nat := qs_cnt (fun c => decide (qn_ph S c ≠ 3)) (qp_m p)
theorem qy_lf_beg {p : qp_T} {t c : Nat} {S : qn_S} (h1 : qn_ph S c = 1) : qy_lf p (qn_beg t S c) = qy_lf p S := by
  refine qs_cnt_ext (fun i _ => ?_)
  by_cases e : i = c
  · subst e; rw [decide_eq_true (by rw [qn_begy_ph]; decide), decide_eq_true (by omega)]
  · rw [qn_begn_ph e]
theorem qy_lf_lv {p : qp_T} {t c : Nat} {S : qn_S} (hc : c < qp_m p) (hh : qn_hs S c = true) (hn : qn_nk S c = qp_vc p c) : qy_lf p S = qy_lf p (qn_ev p t (qn_one c) S) + 1 := by
  rw [qn_hs_iff] at hh
  refine qs_cnt_set (c := c) ?_ ?_ (fun i hi => ?_) hc
  · exact decide_eq_false (by rw [qn_evy_ph (qn_one_s c), if_pos hn]; exact fun z => z rfl)
  · exact decide_eq_true (by omega)
  · rw [qn_evn_ph (qn_one_n hi)]
theorem qy_lf_jo {p : qp_T} {t c : Nat} {S : qn_S} (hh : qn_hs S c = true) (hn : ¬ qn_nk S c = qp_vc p c) : qy_lf p (qn_ev p t (qn_one c) S) = qy_lf p S := by
  rw [qn_hs_iff] at hh
  refine qs_cnt_ext (fun i _ => ?_)
  by_cases e : i = c
  · subst e
    rw [decide_eq_true (by rw [qn_evy_ph (qn_one_s i), if_neg hn]; decide), decide_eq_true (by omega)]
  · rw [qn_evn_ph (qn_one_n e)]
theorem qy_lf_0 {p : qp_T} {S : qn_S} (h : qy_lf p S = 0) : ∀ c, c < qp_m p → qn_ph S c = 3 := by
  intro c hc
  have := qs_cnt_0 h c hc
  by_cases e : qn_ph S c = 3
  · exact e
  · rw [decide_eq_true e] at this; exact absurd this (by decide)
theorem qy_lf_s {p : qp_T} : qy_lf p qn_0 = qp_m p := by
  have h : qy_lf p qn_0 = qs_cnt (fun _ => true) (qp_m p) := qs_cnt_ext (fun c _ => decide_eq_true (by rw [qn_0_ph]; decide))
  rw [h, qq_cnt_all]
-- the first i of those that fire
def qy_D (p : qp_T) (t : Nat) (S : qn_S) (i c : Nat) : Bool := decide (c < i ∧ qn_fi p t S c = true)
theorem qy_D_0 {p : qp_T} {t : Nat} {S : qn_S} : qn_ev p t (qy_D p t S 0) S = S := qn_ev_none (fun c => decide_eq_false (by omega))
theorem qy_D_m {p : qp_T} {t : Nat} {S : qn_S} : qy_D p t S (qp_m p) = qn_fi p t S := by
  funext c
  by_cases e : qn_fi p t S c = true
  · rw [e]; exact decide_eq_true ⟨(qn_fi_iff.mp e).1, e⟩
  · rw [Bool.eq_false_iff.mpr e]; exact decide_eq_false (fun z => e z.2)
theorem qy_D_n {p : qp_T} {t i : Nat} {S : qn_S} : ¬ qy_D p t S i i = true := fun z => by have := of_decide_eq_true z; omega
theorem qy_D_f {p : qp_T} {t i c : Nat} {S : qn_S} (h : qy_D p t S i c = true) : qn_fi p t S c = true := (of_decide_eq_true h).2
theorem qy_D_no {p : qp_T} {t i : Nat} {S : qn_S} (h : ¬ qn_fi p t S i = true) : qy_D p t S (i + 1) = qy_D p t S i := by
  funext c
  by_cases e : c = i
  · subst e
    unfold qy_D
    rw [decide_eq_false (fun z => h z.2), decide_eq_false (fun z => h z.2)]
  · unfold qy_D
    exact decide_eq_decide.mpr ⟨fun z => ⟨by omega, z.2⟩, fun z => ⟨by omega, z.2⟩⟩
theorem qy_D_ye {p : qp_T} {t i : Nat} {S : qn_S} (h : qn_fi p t S i = true) : qn_ev p t (qy_D p t S (i + 1)) S = qn_ev p t (qn_one i) (qn_ev p t (qy_D p t S i) S) := by
  rw [qn_ev_one qy_D_n]
  congr 1
  funext c
  by_cases e : c = i
  · subst e
    rw [qn_one_s, Bool.or_true]
    exact decide_eq_true ⟨by omega, h⟩
  · have h1 : qn_one i c = false := decide_eq_false e
    rw [h1, Bool.or_false]
    unfold qy_D
    exact decide_eq_decide.mpr ⟨fun z => ⟨by omega, z.2⟩, fun z => ⟨by omega, z.2⟩⟩
