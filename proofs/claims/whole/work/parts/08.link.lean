theorem qn_mk_lt {S : qn_S} {c : Nat} (hc : c < 12) : qn_mk S c < 28 ∧ qn_mk S c % 16 = c := by
  unfold qn_mk
  split <;> omega
theorem qn_num_d {p : qp_T} {S : qn_S} {c : Nat} (hc : c < 12) : qn_num p S c / 32 = qn_tm p S c := by
  have := qn_mk_lt (S := S) hc
  unfold qn_num
  omega
theorem qn_num_m {p : qp_T} {S : qn_S} {c : Nat} (hc : c < 12) : qn_num p S c % 32 = qn_mk S c := by
  have := qn_mk_lt (S := S) hc
  unfold qn_num
  omega
theorem qn_num_inj {p : qp_T} {S R : qn_S} {c d : Nat} (hc : c < 12) (hd : d < 12) (h : qn_num p S c = qn_num p R d) : c = d := by
  have h1 := qn_num_m (p := p) (S := S) hc
  have h2 := qn_num_m (p := p) (S := R) hd
  have h3 := qn_mk_lt (S := S) hc
  have h4 := qn_mk_lt (S := R) hd
  rw [h] at h1
  omega
theorem qn_num_lt {p : qp_T} {S : qn_S} {c : Nat} (ok : qp_ok p) (u : qn_U p S) (hc : c < qp_m p) (h : qn_hs S c = true) : qn_num p S c < 49312 := by
  have h1 := qn_tm_le ok u hc h
  have h2 := ok.1
  have h3 := qn_mk_lt (S := S) (c := c) (by omega)
  unfold qn_num
  omega
theorem qn_P_lt {p : qp_T} {S : qn_S} (ok : qp_ok p) (u : qn_U p S) {x : Nat} (h : qn_P p S x) : x < 49312 := by
  obtain ⟨c, hc, hh, e⟩ := h
  rw [e]
  exact qn_num_lt ok u hc hh
theorem qn_hs1 {p : qp_T} {t c d : Nat} {S : qn_S} (h : qn_hs (qn_ev p t (qn_one c) S) d = true) : d ≠ c ∧ qn_hs S d = true := by
  by_cases e : d = c
  · subst e; rw [qn_evy_hs (qn_one_s d)] at h; exact absurd h (by decide)
  · rw [qn_evn_hs (qn_one_n e)] at h; exact ⟨e, h⟩
theorem qn_P_ev {p : qp_T} {t c : Nat} {S : qn_S} (ok : qp_ok p) (hc : c < qp_m p) : qn_P p (qn_ev p t (qn_one c) S) = fun e => qn_P p S e ∧ e ≠ qn_num p S c := by
  have hm := ok.1
  funext e
  refine propext ⟨fun z => ?_, fun z => ?_⟩
  · obtain ⟨d, hd, hh, he⟩ := z
    obtain ⟨hn, h0⟩ := qn_hs1 hh
    rw [qn_evn_num (qn_one_n hn)] at he
    refine ⟨⟨d, hd, h0, he⟩, fun y => hn ?_⟩
    rw [y] at he
    exact (qn_num_inj (by omega) (by omega) he).symm
  · obtain ⟨⟨d, hd, hh, he⟩, hne⟩ := z
    have hn : d ≠ c := fun y => hne (by rw [he, y])
    exact ⟨d, hd, by rw [qn_evn_hs (qn_one_n hn)]; exact hh, by rw [qn_evn_num (qn_one_n hn)]; exact he⟩
theorem qn_begn_num {p : qp_T} {t c d : Nat} {S : qn_S} (h : d ≠ c) (hk : qn_ph S d = 2 → qn_cu S d < 4) (hd : qn_hs S d = true) (hc : qn_cu S c < 4) : qn_num p (qn_beg t S c) d = qn_num p S d := by
  unfold qn_num qn_mk qn_tm
  rw [qn_begn_ph h]
  rcases qn_hs_iff.mp hd with e | e
  · rw [if_pos e, if_pos e, if_pos e]
  · rw [if_neg (by omega), if_neg (by omega), if_neg (by omega), qn_begn_en h (hk e) hc]
theorem qn_begy_num {p : qp_T} {t c : Nat} {S : qn_S} : qn_num p (qn_beg t S c) c = (t + qp_vn p (qn_v S c)) * 32 + c := by
  unfold qn_num qn_mk
  rw [qn_tm_2 qn_begy_ph, qn_begy_en, qn_begy_ph]
  rfl
theorem qn_P_beg {p : qp_T} {t r c : Nat} {S : qn_S} (ok : qp_ok p) (K : qn_Ka p r S) (hc : c < qp_m p) (h1 : qn_ph S c = 1) : qn_P p (qn_beg t S c) = (fun e => qn_P p S e ∨ e = (t + qp_vn p (qn_v S c)) * 32 + c) ∧ ¬ qn_P p S ((t + qp_vn p (qn_v S c)) * 32 + c) := by
  have hm := ok.1
  have hcu := qn_cu4 ok K hc (Or.inl h1)
  have hnh : ¬ qn_hs S c = true := by rw [qn_hs_iff]; omega
  constructor
  · funext e
    refine propext ⟨fun z => ?_, fun z => ?_⟩
    · obtain ⟨d, hd, hh, he⟩ := z
      by_cases f : d = c
      · subst f; rw [qn_begy_num] at he; exact Or.inr he
      · have hh' : qn_hs S d = true := by rw [qn_hs_iff] at hh ⊢; rw [qn_begn_ph f] at hh; exact hh
        rw [qn_begn_num f (fun y => (qn_cu4 ok K hd (Or.inr y)).2) hh' hcu.2] at he
        exact Or.inl ⟨d, hd, hh', he⟩
    · rcases z with ⟨d, hd, hh, he⟩ | z
      · have f : d ≠ c := fun y => hnh (by rw [← y]; exact hh)
        refine ⟨d, hd, ?_, ?_⟩
        · rw [qn_hs_iff] at hh ⊢; rw [qn_begn_ph f]; exact hh
        · rw [qn_begn_num f (fun y => (qn_cu4 ok K hd (Or.inr y)).2) hh hcu.2]; exact he
      · exact ⟨c, hc, qn_hs_iff.mpr (Or.inr qn_begy_ph), by rw [qn_begy_num]; exact z⟩
  · rintro ⟨d, hd, hh, he⟩
    rw [← qn_begy_num (p := p) (S := S)] at he
    have := qn_num_inj (by omega) (by omega) he
    exact hnh (by rw [this]; exact hh)
def qn_nh (p : qp_T) (S : qn_S) : Nat := qs_cnt (qn_hs S) (qp_m p)
theorem qn_nh_ev {p : qp_T} {t c : Nat} {S : qn_S} (hc : c < qp_m p) (hh : qn_hs S c = true) : qn_nh p S = qn_nh p (qn_ev p t (qn_one c) S) + 1 :=
  qs_cnt_set (c := c) (qn_evy_hs (qn_one_s c)) hh (fun i hi => (qn_evn_hs (qn_one_n hi)).symm) hc
theorem qn_nh_beg {p : qp_T} {t c : Nat} {S : qn_S} (hc : c < qp_m p) (h1 : qn_ph S c = 1) : qn_nh p (qn_beg t S c) = qn_nh p S + 1 :=
  qs_cnt_set (c := c) (decide_eq_false (by omega)) (qn_hs_iff.mpr (Or.inr qn_begy_ph)) (fun i hi => by unfold qn_hs; rw [qn_begn_ph hi]) hc
theorem qn_nh_no {p : qp_T} {S : qn_S} (h : qn_nh p S = 0) : ∀ c, c < qp_m p → ¬ qn_hs S c = true := fun c hc z => by
  have := qs_cnt_0 h c hc
  rw [z] at this
  exact absurd this (by decide)
theorem qn_nh_ex {p : qp_T} {S : qn_S} (h : 0 < qn_nh p S) : ∃ x, qn_P p S x := by
  by_cases ex : ∃ c, c < qp_m p ∧ qn_hs S c = true
  · obtain ⟨c, hc, hh⟩ := ex
    exact ⟨_, c, hc, hh, rfl⟩
  · exfalso
    have hz : ∀ i, 0 ≤ i → i < qp_m p → qn_hs S i = false := fun i _ hi => Bool.eq_false_iff.mpr (fun z => ex ⟨i, hi, z⟩)
    have h1 : qs_cnt (qn_hs S) (qp_m p) = qs_cnt (qn_hs S) 0 := qs_cnt_z (Nat.zero_le _) hz
    have h2 : qs_cnt (qn_hs S) 0 = 0 := rfl
    unfold qn_nh at h
    omega
-- the first event to come
theorem qn_first {p : qp_T} {S : qn_S} (h : 0 < qn_nh p S) : ∃ c, c < qp_m p ∧ qn_hs S c = true ∧ ∀ x, qn_P p S x → qn_num p S c ≤ x := by
  obtain ⟨k, hk, hl⟩ := pk_least (qn_P p S) (qn_nh_ex h)
  obtain ⟨c, hc, hh, e⟩ := hk
  refine ⟨c, hc, hh, fun x hx => ?_⟩
  rw [← e]
  rcases Nat.lt_or_ge x k with g | g
  · exact absurd hx (hl x g)
  · exact g
theorem qn_nh_le {p : qp_T} {S : qn_S} : qn_nh p S ≤ qp_m p := qs_cnt_le _ _
-- the times found so far, when c has an event
theorem qn_Tm_ev {p : qp_T} {t c : Nat} {S : qn_S} {jt bg lv jt' bg' lv' : Nat → Int32} (hc : c < qp_m p) (w : qn_wf p S c) (hh : qn_hs S c = true) (hv : qp_vc p c ≤ 4) (T : qn_Tm p S jt bg lv)
    (h1 : ∀ d k, d < qp_m p → k < 4 → ¬ (d = c ∧ qn_nk S c ≠ qp_vc p c ∧ k = qn_nk S c) → jt' (4 * d + k) = jt (4 * d + k))
    (h2 : qn_nk S c ≠ qp_vc p c → jt' (4 * c + qn_nk S c) = nI t)
    (h3 : ∀ d k, d < qp_m p → k < 4 → ¬ (d = c ∧ qn_nk S c ≠ qp_vc p c ∧ k = qn_nk S c) → bg' (4 * d + k) = bg (4 * d + k))
    (h4 : ∀ d, d < qp_m p → ¬ (d = c ∧ qn_nk S c = qp_vc p c) → lv' d = lv d)
    (h5 : qn_nk S c = qp_vc p c → lv' c = nI t) : qn_Tm p (qn_ev p t (qn_one c) S) jt' bg' lv' := by
  intro d hd
  obtain ⟨t1, t2, t3⟩ := T d hd
  by_cases e : d = c
  · subst e
    have o := qn_one_s d
    have hn := qn_nk_le w hh
    have hb : ∀ k, k < qn_nk S d → qn_bd S d k := by
      intro k hk
      rcases qn_hs_iff.mp hh with f | f
      · rw [qn_nk_0 f] at hk; unfold qn_wf at w; omega
      · rw [qn_nk_2 f] at hk; unfold qn_bd; omega
    have hj : ∀ k, k < qn_nk S d → qn_jd S d k := by
      intro k hk
      have := hb k hk
      unfold qn_bd at this
      unfold qn_jd
      omega
    refine ⟨fun k hk hj' => ?_, fun k hk hb' => ?_, fun h3' => ?_⟩
    · unfold qn_jd at hj'
      rw [qn_evy_cu o, qn_evy_ph o] at hj'
      rw [qn_evy_J hk o]
      by_cases f : k < qn_nk S d
      · rw [if_neg (by omega), h1 d k hd hk (by omega)]
        exact t1 k hk (hj k f)
      · by_cases g : qn_nk S d = qp_vc p d
        · rw [if_pos g] at hj'; omega
        · have ek : k = qn_nk S d := by omega
          rw [if_pos ⟨g, ek⟩, ek]
          exact h2 g
    · unfold qn_bd at hb'
      rw [qn_evy_cu o, qn_evy_ph o] at hb'
      have f : k < qn_nk S d := by
        by_cases g : qn_nk S d = qp_vc p d
        · rw [if_pos g] at hb'; omega
        · rw [if_neg g] at hb'; omega
      rw [qn_ev_B, h3 d k hd hk (by omega)]
      exact t2 k hk (hb k f)
    · rw [qn_evy_ph o] at h3'
      by_cases g : qn_nk S d = qp_vc p d
      · rw [qn_ev_L, if_pos ⟨o, g⟩]; exact h5 g
      · rw [if_neg g] at h3'; omega
  · have o := qn_one_n e
    refine ⟨fun k hk hj' => ?_, fun k hk hb' => ?_, fun h3' => ?_⟩
    · unfold qn_jd at hj'
      rw [qn_evn_cu o, qn_evn_ph o] at hj'
      rw [qn_evn_J hk o, h1 d k hd hk (fun z => e z.1)]
      exact t1 k hk hj'
    · unfold qn_bd at hb'
      rw [qn_evn_cu o, qn_evn_ph o] at hb'
      rw [qn_ev_B, h3 d k hd hk (fun z => e z.1)]
      exact t2 k hk hb'
    · rw [qn_evn_ph o] at h3'
      rw [qn_evn_L o, h4 d hd (fun z => e z.1)]
      exact t3 h3'
theorem qn_Tm_beg {p : qp_T} {t r c : Nat} {S : qn_S} {jt bg lv : Nat → Int32} (ok : qp_ok p) (K : qn_Ka p r S) (hc : c < qp_m p) (h1 : qn_ph S c = 1) (T : qn_Tm p S jt bg lv) : qn_Tm p (qn_beg t S c) jt (upd bg (qn_v S c) (nI t)) lv := by
  have hcu := qn_cu4 ok K hc (Or.inl h1)
  intro d hd
  obtain ⟨t1, t2, t3⟩ := T d hd
  by_cases e : d = c
  · subst e
    refine ⟨fun k hk hj' => ?_, fun k hk hb' => ?_, fun h3' => ?_⟩
    · rw [qn_beg_J]
      refine t1 k hk ?_
      unfold qn_jd at hj' ⊢
      rw [qn_beg_cu] at hj'
      omega
    · unfold qn_bd at hb'
      rw [qn_beg_cu] at hb'
      by_cases f : k < qn_cu S d
      · have hne : 4 * d + k ≠ qn_v S d := by unfold qn_v; omega
        rw [pk_un hne, qn_beg_B, qn_un hne]
        exact t2 k hk (Or.inl f)
      · have he : 4 * d + k = qn_v S d := by unfold qn_v; omega
        rw [he, pk_us, qn_beg_B, qn_us]
    · rw [qn_begy_ph] at h3'; omega
  · refine ⟨fun k hk hj' => ?_, fun k hk hb' => ?_, fun h3' => ?_⟩
    · rw [qn_beg_J]
      refine t1 k hk ?_
      unfold qn_jd at hj' ⊢
      rw [qn_beg_cu, qn_begn_ph e] at hj'
      exact hj'
    · unfold qn_bd at hb'
      rw [qn_beg_cu, qn_begn_ph e] at hb'
      have hne : 4 * d + k ≠ qn_v S c := by unfold qn_v; omega
      rw [pk_un hne, qn_beg_B, qn_un hne]
      exact t2 k hk hb'
    · rw [qn_begn_ph e] at h3'
      rw [qn_beg_L]
      exact t3 h3'
