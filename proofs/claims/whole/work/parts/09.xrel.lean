theorem qn_nsg_ev1 {p : qp_T} {t c s : Nat} {S : qn_S} (hc : c < qp_m p) (hh : qn_hs S c = true) : qn_nsg p (qn_ev p t (qn_one c) S) s + (if qn_ph S c = 2 ∧ qp_vs p (qn_v S c) = s then 1 else 0) = qn_nsg p S s := by
  have hn : ∀ i, i ≠ c → qn_sg p S s i = qn_sg p (qn_ev p t (qn_one c) S) s i := fun i hi => by
    unfold qn_sg; rw [qn_evn_ph (qn_one_n hi), qn_evn_v (qn_one_n hi)]
  have hy : qn_sg p (qn_ev p t (qn_one c) S) s c = false := by
    refine Bool.eq_false_iff.mpr (fun z => ?_)
    exact (qn_sg_ev z).1 (qn_one_s c)
  by_cases e : qn_ph S c = 2 ∧ qp_vs p (qn_v S c) = s
  · rw [if_pos e]
    exact (qs_cnt_set (c := c) hy (qn_sg_iff.mpr e) hn hc).symm
  · rw [if_neg e]
    refine (qs_cnt_ext (fun i _ => ?_)).symm
    by_cases f : i = c
    · subst f; rw [hy]; exact decide_eq_false e
    · exact hn i f
def qx_R (p : qp_T) (S : qn_S) (cv wa fr jt bg lv : Nat → Int32) : Prop :=
  (∀ c, c < qp_m p → cv c = nI (qn_v S c)) ∧ (∀ c, c < qp_m p → wa c = if qn_ph S c = 1 then nI (qp_vs p (qn_v S c)) else -1) ∧
  (∀ s, s < 4 → ∃ f, fr s = nI f ∧ f + qn_nsg p S s = qp_sv p s) ∧ qn_Tm p S jt bg lv
theorem qx_R_ev {p : qp_T} {t c : Nat} {S : qn_S} {cv wa fr jt bg lv cv' wa' fr' jt' lv' : Nat → Int32} (hc : c < qp_m p) (w : qn_wf p S c) (hh : qn_hs S c = true) (hv : qp_vc p c ≤ 4) (R : qx_R p S cv wa fr jt bg lv)
    (hcv : ∀ d, d < qp_m p → cv' d = if d = c then nI (4 * c + qn_nk S c) else cv d)
    (hwa : ∀ d, d < qp_m p → wa' d = if d = c ∧ qn_nk S c ≠ qp_vc p c then nI (qp_vs p (4 * c + qn_nk S c)) else wa d)
    (hfr : ∀ s, s < 4 → fr' s = if qn_ph S c = 2 ∧ qp_vs p (qn_v S c) = s then fr s + 1 else fr s)
    (h1 : ∀ d k, d < qp_m p → k < 4 → ¬ (d = c ∧ qn_nk S c ≠ qp_vc p c ∧ k = qn_nk S c) → jt' (4 * d + k) = jt (4 * d + k))
    (h2 : qn_nk S c ≠ qp_vc p c → jt' (4 * c + qn_nk S c) = nI t)
    (h4 : ∀ d, d < qp_m p → ¬ (d = c ∧ qn_nk S c = qp_vc p c) → lv' d = lv d)
    (h5 : qn_nk S c = qp_vc p c → lv' c = nI t) : qx_R p (qn_ev p t (qn_one c) S) cv' wa' fr' jt' bg lv' := by
  obtain ⟨r1, r2, r3, r4⟩ := R
  refine ⟨fun d hd => ?_, fun d hd => ?_, fun s hs => ?_, qn_Tm_ev hc w hh hv r4 h1 h2 (fun _ _ _ _ _ => rfl) h4 h5⟩
  · rw [hcv d hd]
    by_cases e : d = c
    · subst e; rw [if_pos rfl]; unfold qn_v; rw [qn_evy_cu (qn_one_s d)]
    · rw [if_neg e, qn_evn_v (qn_one_n e)]; exact r1 d hd
  · rw [hwa d hd]
    by_cases e : d = c
    · subst e
      rw [qn_evy_ph (qn_one_s d)]
      by_cases g : qn_nk S d = qp_vc p d
      · have hp : ¬ qn_ph S d = 1 := by rw [qn_hs_iff] at hh; omega
        rw [if_neg (fun z => z.2 g), if_pos g, r2 d hd, if_neg hp, if_neg (by decide)]
      · rw [if_pos ⟨rfl, g⟩, if_neg g, if_pos rfl]; unfold qn_v; rw [qn_evy_cu (qn_one_s d)]
    · rw [if_neg (fun z => e z.1), qn_evn_ph (qn_one_n e), qn_evn_v (qn_one_n e)]; exact r2 d hd
  · obtain ⟨f, hf, he⟩ := r3 s hs
    have hn := qn_nsg_ev1 (t := t) (s := s) hc hh
    rw [hfr s hs]
    by_cases g : qn_ph S c = 2 ∧ qp_vs p (qn_v S c) = s
    · rw [if_pos g] at hn
      rw [if_pos g]
      exact ⟨f + 1, by rw [hf, nI_1], by omega⟩
    · rw [if_neg g] at hn
      rw [if_neg g]
      exact ⟨f, hf, by omega⟩
theorem qx_R_beg {p : qp_T} {t r c s : Nat} {S : qn_S} {cv wa fr jt bg lv : Nat → Int32} {x : Int32} (ok : qp_ok p) (K : qn_Ka p r S) (hc : c < qp_m p) (h1 : qn_ph S c = 1) (hs : qp_vs p (qn_v S c) = s) (R : qx_R p S cv wa fr jt bg lv)
    (hx : ∀ f, fr s = nI (f + 1) → x = nI f) (hlt : qn_nsg p S s < qp_sv p s) : qx_R p (qn_beg t S c) cv (upd wa c (-1)) (upd fr s x) jt (upd bg (qn_v S c) (nI t)) lv := by
  obtain ⟨r1, r2, r3, r4⟩ := R
  refine ⟨fun d hd => ?_, fun d hd => ?_, fun q hq => ?_, qn_Tm_beg ok K hc h1 r4⟩
  · rw [qn_beg_v]; exact r1 d hd
  · by_cases e : d = c
    · subst e; rw [pk_us, qn_begy_ph, if_neg (by decide)]
    · rw [pk_un e, qn_begn_ph e, qn_beg_v]; exact r2 d hd
  · obtain ⟨f, hf, he⟩ := r3 q hq
    by_cases e : q = s
    · subst e
      rw [pk_us, qn_nsg_beg hc h1 hs]
      obtain ⟨g, rfl⟩ : ∃ g, f = g + 1 := ⟨f - 1, by omega⟩
      exact ⟨g, hx g hf, by omega⟩
    · rw [pk_un e, qn_nsg_begn h1 (fun z => e (by rw [← z, hs]))]
      exact ⟨f, hf, he⟩
-- the store of events, by engine
def qx_St (e n : Nat) (ev cal : Nat → Int32) (P : Nat → Prop) : Prop :=
  (e < 3 → ∃ A : Nat → Nat, (∀ i, i < n → ev i = nI (A i)) ∧ qs_St A n P ∧ (e = 1 → qs_fall A n) ∧ (e = 2 → qs_hp A n)) ∧ (3 ≤ e → qs_Ca cal P) ∧ ∀ x, P x → x < 49312
-- waiting and rule, as X asks them
theorem qx_wt {p : qp_T} {S : qn_S} {r c s : Nat} (ok : qp_ok p) (K : qn_Ka p r S) (hc : c < qp_m p) (hs : s < 4) {x : Int32} (hx : x = if qn_ph S c = 1 then nI (qp_vs p (qn_v S c)) else -1) : x = nI s ↔ qn_wt p S s c = true := by
  rw [qn_wt_iff, hx]
  by_cases e : qn_ph S c = 1
  · rw [if_pos e]
    have hcu := qn_cu4 ok K hc (Or.inl e)
    have hv : qp_vs p (qn_v S c) < 4 := ((ok.2.2 c hc).2.2 _ hcu.1).1
    rw [nI_eq (by omega) (by omega)]
    exact ⟨fun z => ⟨e, z⟩, fun z => z.2⟩
  · rw [if_neg e]
    refine ⟨fun z => ?_, fun z => absurd z.1 e⟩
    exfalso
    have h : ∀ s, s < 4 → ¬ (-1 : Int32) = nI s := by decide +kernel
    exact h s hs z
theorem qx_jt {p : qp_T} {S : qn_S} {r c s : Nat} {jt bg lv : Nat → Int32} (ok : qp_ok p) (K : qn_Ka p r S) (T : qn_Tm p S jt bg lv) (hc : c < qp_m p) (hw : qn_wt p S s c = true) : jt (qn_v S c) = nI (qn_J S (qn_v S c)) ∧ qn_J S (qn_v S c) ≤ r ∧ qn_v S c < 48 ∧ qp_vn p (qn_v S c) ≤ 30 ∧ 1 ≤ qp_vn p (qn_v S c) ∧ qp_vs p (qn_v S c) = s := by
  rw [qn_wt_iff] at hw
  have hcu := qn_cu4 ok K hc (Or.inl hw.1)
  have h1 := (T c hc).1 (qn_cu S c) hcu.2 (Or.inr ⟨rfl, Or.inl hw.1⟩)
  have h2 := (K c hc).2.1 (qn_cu S c) hcu.2 (Or.inr ⟨rfl, Or.inl hw.1⟩)
  have h3 := (ok.2.2 c hc).2.2 _ hcu.1
  have hm := ok.1
  refine ⟨h1, h2, by unfold qn_v; omega, h3.2.2, h3.2.1, hw.2⟩
def qn_enc : Option Nat → Int32
  | none => -1
  | some c => nI c
theorem qn_enc_n : ∀ c, c < 12 → ¬ nI c = (-1 : Int32) := by decide +kernel
theorem qn_enc_l : ∀ c, c < 12 → ¬ nI c < (0 : Int32) := by decide +kernel
