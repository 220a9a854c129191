theorem qn_beg_ph (t : Nat) (S : qn_S) (c : Nat) : qn_ph (qn_beg t S c) = qn_u (qn_ph S) c 2 := rfl
theorem qn_beg_B (t : Nat) (S : qn_S) (c : Nat) : qn_B (qn_beg t S c) = qn_u (qn_B S) (qn_v S c) t := rfl
theorem qn_beg_cu (t : Nat) (S : qn_S) (c : Nat) : qn_cu (qn_beg t S c) = qn_cu S := rfl
theorem qn_beg_J (t : Nat) (S : qn_S) (c : Nat) : qn_J (qn_beg t S c) = qn_J S := rfl
theorem qn_beg_L (t : Nat) (S : qn_S) (c : Nat) : qn_L (qn_beg t S c) = qn_L S := rfl
theorem qn_beg_v (t : Nat) (S : qn_S) (c : Nat) : qn_v (qn_beg t S c) = qn_v S := rfl
theorem qn_begn_ph {t : Nat} {S : qn_S} {c d : Nat} (h : d ≠ c) : qn_ph (qn_beg t S c) d = qn_ph S d := by rw [qn_beg_ph, qn_un h]
theorem qn_begy_ph {t : Nat} {S : qn_S} {c : Nat} : qn_ph (qn_beg t S c) c = 2 := by rw [qn_beg_ph, qn_us]
theorem qn_begn_B {t : Nat} {S : qn_S} {c d k : Nat} (h : d ≠ c) (hk : k < 4) (hc : qn_cu S c < 4) : qn_B (qn_beg t S c) (4 * d + k) = qn_B S (4 * d + k) := by
  rw [qn_beg_B, qn_un]; unfold qn_v; omega
theorem qn_begn_en {p : qp_T} {t : Nat} {S : qn_S} {c d : Nat} (h : d ≠ c) (hk : qn_cu S d < 4) (hc : qn_cu S c < 4) : qn_en p (qn_beg t S c) d = qn_en p S d := by
  unfold qn_en
  rw [qn_beg_v]
  show qn_B (qn_beg t S c) (4 * d + qn_cu S d) + _ = qn_B S (4 * d + qn_cu S d) + _
  rw [qn_begn_B h hk hc]
theorem qn_begy_en {p : qp_T} {t : Nat} {S : qn_S} {c : Nat} : qn_en p (qn_beg t S c) c = t + qp_vn p (qn_v S c) := by
  unfold qn_en
  rw [qn_beg_v, qn_beg_B, qn_us]
def qn_jd (S : qn_S) (c k : Nat) : Prop := k < qn_cu S c ∨ (k = qn_cu S c ∧ (qn_ph S c = 1 ∨ qn_ph S c = 2))
def qn_bd (S : qn_S) (c k : Nat) : Prop := k < qn_cu S c ∨ (k = qn_cu S c ∧ qn_ph S c = 2)
def qn_wf (p : qp_T) (S : qn_S) (c : Nat) : Prop := (qn_ph S c = 0 ∧ qn_cu S c = 0) ∨ (qn_ph S c = 1 ∧ qn_cu S c < qp_vc p c) ∨ (qn_ph S c = 2 ∧ qn_cu S c < qp_vc p c) ∨ (qn_ph S c = 3 ∧ qn_cu S c = qp_vc p c)
def qn_K (p : qp_T) (t : Nat) (S : qn_S) (c : Nat) : Prop :=
  qn_wf p S c ∧
  (∀ k, k < 4 → qn_jd S c k → qn_J S (4 * c + k) ≤ t) ∧
  (∀ k, k < 4 → qn_bd S c k → qn_J S (4 * c + k) ≤ qn_B S (4 * c + k) ∧ qn_B S (4 * c + k) ≤ t) ∧
  (∀ k, k < 4 → k < qn_cu S c → qn_B S (4 * c + k) + qp_vn p (4 * c + k) ≤ t) ∧
  (qn_ph S c = 3 → qn_L S c ≤ t ∧ ∀ k, k < 4 → k < qp_vc p c → qn_B S (4 * c + k) + qp_vn p (4 * c + k) ≤ qn_L S c)
theorem qn_K_mono {p : qp_T} {t r : Nat} {S : qn_S} {c : Nat} (h : t ≤ r) (K : qn_K p t S c) : qn_K p r S c := by
  obtain ⟨k1, k2, k3, k4, k5⟩ := K
  exact ⟨k1, fun k hk hj => Nat.le_trans (k2 k hk hj) h, fun k hk hb => ⟨(k3 k hk hb).1, Nat.le_trans (k3 k hk hb).2 h⟩,
    fun k hk hc => Nat.le_trans (k4 k hk hc) h, fun h3 => ⟨Nat.le_trans (k5 h3).1 h, (k5 h3).2⟩⟩
theorem qn_K_of {p : qp_T} {t : Nat} {S R : qn_S} {c : Nat} (h1 : qn_cu R c = qn_cu S c) (h2 : qn_ph R c = qn_ph S c) (h3 : ∀ k, k < 4 → qn_J R (4 * c + k) = qn_J S (4 * c + k)) (h4 : ∀ k, k < 4 → qn_B R (4 * c + k) = qn_B S (4 * c + k)) (h5 : qn_L R c = qn_L S c) (K : qn_K p t S c) : qn_K p t R c := by
  obtain ⟨k1, k2, k3, k4, k5⟩ := K
  unfold qn_wf at k1
  unfold qn_jd at k2
  unfold qn_bd at k3
  refine ⟨?_, fun k hk hj => ?_, fun k hk hb => ?_, fun k hk hc => ?_, fun e3 => ?_⟩
  · unfold qn_wf; rw [h1, h2]; exact k1
  · unfold qn_jd at hj; rw [h1, h2] at hj; rw [h3 k hk]; exact k2 k hk hj
  · unfold qn_bd at hb; rw [h1, h2] at hb; rw [h3 k hk, h4 k hk]; exact k3 k hk hb
  · rw [h1] at hc; rw [h4 k hk]; exact k4 k hk hc
  · rw [h2] at e3
    rw [h5]
    refine ⟨(k5 e3).1, fun k hk hc => ?_⟩
    rw [h4 k hk]
    exact (k5 e3).2 k hk hc
theorem qn_hs_iff {S : qn_S} {c : Nat} : qn_hs S c = true ↔ (qn_ph S c = 0 ∨ qn_ph S c = 2) := by unfold qn_hs; exact decide_eq_true_iff
theorem qn_fi_iff {p : qp_T} {t : Nat} {S : qn_S} {c : Nat} : qn_fi p t S c = true ↔ (c < qp_m p ∧ qn_hs S c = true ∧ qn_tm p S c = t) := by unfold qn_fi; exact decide_eq_true_iff
theorem qn_wt_iff {p : qp_T} {S : qn_S} {s c : Nat} : qn_wt p S s c = true ↔ (qn_ph S c = 1 ∧ qp_vs p (qn_v S c) = s) := by unfold qn_wt; exact decide_eq_true_iff
theorem qn_sg_iff {p : qp_T} {S : qn_S} {s c : Nat} : qn_sg p S s c = true ↔ (qn_ph S c = 2 ∧ qp_vs p (qn_v S c) = s) := by unfold qn_sg; exact decide_eq_true_iff
theorem qn_tm_0 {p : qp_T} {S : qn_S} {c : Nat} (h : qn_ph S c = 0) : qn_tm p S c = qp_ar p c := by unfold qn_tm; rw [if_pos h]
theorem qn_tm_2 {p : qp_T} {S : qn_S} {c : Nat} (h : qn_ph S c = 2) : qn_tm p S c = qn_en p S c := by unfold qn_tm; rw [if_neg (by omega)]
theorem qn_nk_0 {S : qn_S} {c : Nat} (h : qn_ph S c = 0) : qn_nk S c = qn_cu S c := by unfold qn_nk; rw [if_neg (by omega)]
theorem qn_nk_2 {S : qn_S} {c : Nat} (h : qn_ph S c = 2) : qn_nk S c = qn_cu S c + 1 := by unfold qn_nk; rw [if_pos h]
-- one that has an event: its next visit's number is at most the number of visits
theorem qn_nk_le {p : qp_T} {S : qn_S} {c : Nat} (w : qn_wf p S c) (h : qn_hs S c = true) : qn_nk S c ≤ qp_vc p c := by
  rcases qn_hs_iff.mp h with e | e
  · rw [qn_nk_0 e]; unfold qn_wf at w; omega
  · rw [qn_nk_2 e]; unfold qn_wf at w; omega
theorem qn_wf_ev {p : qp_T} {t : Nat} {D : Nat → Bool} {S : qn_S} {c : Nat} (w : qn_wf p S c) (h : D c = true → qn_hs S c = true) : qn_wf p (qn_ev p t D S) c := by
  by_cases d : D c = true
  · have hn := qn_nk_le w (h d)
    unfold qn_wf
    rw [qn_evy_ph d, qn_evy_cu d]
    by_cases e : qn_nk S c = qp_vc p c
    · rw [if_pos e]; exact Or.inr (Or.inr (Or.inr ⟨rfl, e⟩))
    · rw [if_neg e]; exact Or.inr (Or.inl ⟨rfl, by omega⟩)
  · unfold qn_wf
    rw [qn_evn_ph d, qn_evn_cu d]
    exact w
theorem qn_K_ev {p : qp_T} {t : Nat} {D : Nat → Bool} {S : qn_S} {c : Nat} (hv : qp_vc p c ≤ 4) (K : qn_K p t S c) (h : D c = true → qn_hs S c = true ∧ qn_tm p S c = t) : qn_K p t (qn_ev p t D S) c := by
  by_cases d : D c = true
  · obtain ⟨hh, ht⟩ := h d
    have wf' := qn_wf_ev (t := t) (D := D) K.1 (fun z => (h z).1)
    have hn := qn_nk_le K.1 hh
    obtain ⟨k1, k2, k3, k4, k5⟩ := K
    have F : ∀ k, k < 4 → k < qn_nk S c → qn_J S (4 * c + k) ≤ qn_B S (4 * c + k) ∧ qn_B S (4 * c + k) ≤ t ∧ qn_B S (4 * c + k) + qp_vn p (4 * c + k) ≤ t := by
      intro k hk hl
      rcases qn_hs_iff.mp hh with e | e
      · rw [qn_nk_0 e] at hl; unfold qn_wf at k1; omega
      · rw [qn_nk_2 e] at hl
        by_cases f : k < qn_cu S c
        · exact ⟨(k3 k hk (Or.inl f)).1, (k3 k hk (Or.inl f)).2, k4 k hk f⟩
        · have g : k = qn_cu S c := by omega
          have h3 := k3 k hk (Or.inr ⟨g, e⟩)
          rw [qn_tm_2 e] at ht
          unfold qn_en qn_v at ht
          rw [← g] at ht
          exact ⟨h3.1, h3.2, by omega⟩
    have J0 : ∀ k, k < 4 → k < qn_nk S c → qn_J (qn_ev p t D S) (4 * c + k) = qn_J S (4 * c + k) := by
      intro k hk hl
      rw [qn_evy_J hk d, if_neg (by omega)]
    refine ⟨wf', fun k hk hj => ?_, fun k hk hb => ?_, fun k hk hc => ?_, fun e3 => ?_⟩
    · unfold qn_jd at hj
      rw [qn_evy_cu d] at hj
      by_cases f : k < qn_nk S c
      · rw [J0 k hk f]; have := F k hk f; omega
      · rw [qn_evy_J hk d]
        rw [qn_evy_ph d] at hj
        by_cases e : qn_nk S c = qp_vc p c
        · rw [if_pos e] at hj; omega
        · rw [if_pos ⟨e, by omega⟩]; exact Nat.le_refl _
    · unfold qn_bd at hb
      rw [qn_evy_cu d, qn_evy_ph d] at hb
      have f : k < qn_nk S c := by
        by_cases e : qn_nk S c = qp_vc p c
        · rw [if_pos e] at hb; omega
        · rw [if_neg e] at hb; omega
      rw [J0 k hk f, qn_ev_B]
      have := F k hk f
      omega
    · rw [qn_evy_cu d] at hc
      rw [qn_ev_B]
      exact (F k hk hc).2.2
    · rw [qn_evy_ph d] at e3
      by_cases e : qn_nk S c = qp_vc p c
      · rw [qn_ev_L, if_pos ⟨d, e⟩]
        refine ⟨Nat.le_refl _, fun k hk hc => ?_⟩
        rw [qn_ev_B]
        exact (F k hk (by omega)).2.2
      · rw [if_neg e] at e3; omega
  · exact qn_K_of (qn_evn_cu d) (qn_evn_ph d) (fun k hk => qn_evn_J hk d) (fun k hk => rfl) (qn_evn_L d) K
theorem qn_K_beg {p : qp_T} {t : Nat} {S : qn_S} {c d : Nat} (hv : qp_vc p c ≤ 4) (h1 : qn_ph S c = 1) (hc : qn_cu S c < qp_vc p c) (K : qn_K p t S d) : qn_K p t (qn_beg t S c) d := by
  by_cases e : d = c
  · subst e
    obtain ⟨k1, k2, k3, k4, k5⟩ := K
    have B0 : ∀ k, k < 4 → k < qn_cu S d → qn_B (qn_beg t S d) (4 * d + k) = qn_B S (4 * d + k) := by
      intro k hk hl
      rw [qn_beg_B, qn_un]; unfold qn_v; omega
    refine ⟨Or.inr (Or.inr (Or.inl ⟨qn_begy_ph, hc⟩)), fun k hk hj => ?_, fun k hk hb => ?_, fun k hk hl => ?_, fun e3 => ?_⟩
    · rw [qn_beg_J]
      refine k2 k hk ?_
      unfold qn_jd at hj ⊢
      rw [qn_beg_cu] at hj
      omega
    · unfold qn_bd at hb
      rw [qn_beg_cu] at hb
      rw [qn_beg_J]
      by_cases f : k < qn_cu S d
      · rw [B0 k hk f]; exact k3 k hk (Or.inl f)
      · have g : k = qn_cu S d := by omega
        have hB : qn_B (qn_beg t S d) (4 * d + k) = t := by
          rw [qn_beg_B, g]; exact qn_us
        rw [hB]
        exact ⟨k2 k hk (Or.inr ⟨g, Or.inl h1⟩), Nat.le_refl _⟩
    · rw [qn_beg_cu] at hl
      rw [B0 k hk hl]
      exact k4 k hk hl
    · rw [qn_begy_ph] at e3; omega
  · exact qn_K_of (S := S) rfl (qn_begn_ph e) (fun k hk => rfl) (fun k hk => qn_begn_B e hk (by omega)) rfl K
-- visits not yet begun
def qn_py (p : qp_T) (S : qn_S) (c : Nat) : Nat := if qn_ph S c = 0 then qp_vc p c else if qn_ph S c = 1 then qp_vc p c - qn_cu S c else if qn_ph S c = 2 then qp_vc p c - qn_cu S c - 1 else 0
def qn_Psi (p : qp_T) (S : qn_S) : Nat := qs_sum (qn_py p S) (qp_m p)
-- events to come in all
def qn_ey (p : qp_T) (S : qn_S) (c : Nat) : Nat := if qn_ph S c = 0 then qp_vc p c + 1 else if qn_ph S c = 3 then 0 else qp_vc p c - qn_cu S c
def qn_Phi (p : qp_T) (S : qn_S) : Nat := qs_sum (qn_ey p S) (qp_m p)
theorem qn_py_0 {p : qp_T} {S : qn_S} {c : Nat} (h : qn_ph S c = 0) : qn_py p S c = qp_vc p c := by unfold qn_py; rw [if_pos h]
theorem qn_py_1 {p : qp_T} {S : qn_S} {c : Nat} (h : qn_ph S c = 1) : qn_py p S c = qp_vc p c - qn_cu S c := by unfold qn_py; rw [if_neg (by omega), if_pos h]
theorem qn_py_2 {p : qp_T} {S : qn_S} {c : Nat} (h : qn_ph S c = 2) : qn_py p S c = qp_vc p c - qn_cu S c - 1 := by unfold qn_py; rw [if_neg (by omega), if_neg (by omega), if_pos h]
theorem qn_py_3 {p : qp_T} {S : qn_S} {c : Nat} (h : qn_ph S c = 3) : qn_py p S c = 0 := by unfold qn_py; rw [if_neg (by omega), if_neg (by omega), if_neg (by omega)]
theorem qn_ey_0 {p : qp_T} {S : qn_S} {c : Nat} (h : qn_ph S c = 0) : qn_ey p S c = qp_vc p c + 1 := by unfold qn_ey; rw [if_pos h]
theorem qn_ey_1 {p : qp_T} {S : qn_S} {c : Nat} (h : qn_ph S c = 1) : qn_ey p S c = qp_vc p c - qn_cu S c := by unfold qn_ey; rw [if_neg (by omega), if_neg (by omega)]
theorem qn_ey_2 {p : qp_T} {S : qn_S} {c : Nat} (h : qn_ph S c = 2) : qn_ey p S c = qp_vc p c - qn_cu S c := by unfold qn_ey; rw [if_neg (by omega), if_neg (by omega)]
theorem qn_ey_3 {p : qp_T} {S : qn_S} {c : Nat} (h : qn_ph S c = 3) : qn_ey p S c = 0 := by unfold qn_ey; rw [if_neg (by omega), if_pos h]
theorem qn_py_ev {p : qp_T} {t : Nat} {D : Nat → Bool} {S : qn_S} {c : Nat} (w : qn_wf p S c) (h : D c = true → qn_hs S c = true) : qn_py p (qn_ev p t D S) c = qn_py p S c := by
  by_cases d : D c = true
  · have hh := h d
    have hc := qn_evy_cu (p := p) (t := t) (S := S) d
    have hp := qn_evy_ph (p := p) (t := t) (S := S) d
    rcases qn_hs_iff.mp hh with e | e
    · have hn := qn_nk_0 e
      have h0 : qn_cu S c = 0 := by unfold qn_wf at w; omega
      by_cases f : qn_nk S c = qp_vc p c
      · rw [if_pos f] at hp; rw [qn_py_3 hp, qn_py_0 e]; omega
      · rw [if_neg f] at hp; rw [qn_py_1 hp, qn_py_0 e, hc]; omega
    · have hn := qn_nk_2 e
      have h0 : qn_cu S c < qp_vc p c := by unfold qn_wf at w; omega
      by_cases f : qn_nk S c = qp_vc p c
      · rw [if_pos f] at hp; rw [qn_py_3 hp, qn_py_2 e]; omega
      · rw [if_neg f] at hp; rw [qn_py_1 hp, qn_py_2 e, hc]; omega
  · unfold qn_py; rw [qn_evn_ph d, qn_evn_cu d]
theorem qn_ey_ev {p : qp_T} {t : Nat} {D : Nat → Bool} {S : qn_S} {c : Nat} (w : qn_wf p S c) (d : D c = true) (hh : qn_hs S c = true) : qn_ey p (qn_ev p t D S) c + 1 = qn_ey p S c := by
  have hc := qn_evy_cu (p := p) (t := t) (S := S) d
  have hp := qn_evy_ph (p := p) (t := t) (S := S) d
  rcases qn_hs_iff.mp hh with e | e
  · have hn := qn_nk_0 e
    have h0 : qn_cu S c = 0 := by unfold qn_wf at w; omega
    by_cases f : qn_nk S c = qp_vc p c
    · rw [if_pos f] at hp; rw [qn_ey_3 hp, qn_ey_0 e]; omega
    · rw [if_neg f] at hp; rw [qn_ey_1 hp, qn_ey_0 e, hc]; omega
  · have hn := qn_nk_2 e
    have h0 : qn_cu S c < qp_vc p c := by unfold qn_wf at w; omega
    by_cases f : qn_nk S c = qp_vc p c
    · rw [if_pos f] at hp; rw [qn_ey_3 hp, qn_ey_2 e]; omega
    · rw [if_neg f] at hp; rw [qn_ey_1 hp, qn_ey_2 e, hc]; omega
theorem qn_eyn_ev {p : qp_T} {t : Nat} {D : Nat → Bool} {S : qn_S} {c : Nat} (d : ¬ D c = true) : qn_ey p (qn_ev p t D S) c = qn_ey p S c := by
  unfold qn_ey; rw [qn_evn_ph d, qn_evn_cu d]
theorem qn_Psi_ev {p : qp_T} {t : Nat} {D : Nat → Bool} {S : qn_S} (w : ∀ c, c < qp_m p → qn_wf p S c) (h : ∀ c, D c = true → qn_hs S c = true) : qn_Psi p (qn_ev p t D S) = qn_Psi p S :=
  qs_sum_ext (fun c hc => qn_py_ev (w c hc) (h c))
theorem qn_Phi_ev {p : qp_T} {t : Nat} {D : Nat → Bool} {S : qn_S} (w : ∀ c, c < qp_m p → qn_wf p S c) (h : ∀ c, D c = true → qn_hs S c = true) {c : Nat} (hc : c < qp_m p) (hd : D c = true) : qn_Phi p (qn_ev p t D S) + 1 ≤ qn_Phi p S := by
  refine qs_sum_lt (c := c) (fun i hi => ?_) hc ?_
  · by_cases d : D i = true
    · have := qn_ey_ev (t := t) (w i hi) d (h i d); omega
    · rw [qn_eyn_ev d]; exact Nat.le_refl _
  · have := qn_ey_ev (t := t) (w c hc) hd (h c hd); omega
theorem qn_Psi_beg {p : qp_T} {t : Nat} {S : qn_S} {c : Nat} (hm : c < qp_m p) (h1 : qn_ph S c = 1) (hc : qn_cu S c < qp_vc p c) : qn_Psi p (qn_beg t S c) + 1 = qn_Psi p S := by
  refine qs_sum_dec (c := c) ?_ (fun i hi => ?_) hm
  · rw [qn_py_1 h1, qn_py_2 qn_begy_ph, qn_beg_cu]; omega
  · unfold qn_py; rw [qn_begn_ph hi, qn_beg_cu]
theorem qn_Phi_beg {p : qp_T} {t : Nat} {S : qn_S} {c : Nat} (h1 : qn_ph S c = 1) : qn_Phi p (qn_beg t S c) = qn_Phi p S := by
  refine qs_sum_ext (fun i _ => ?_)
  by_cases e : i = c
  · subst e; rw [qn_ey_1 h1, qn_ey_2 qn_begy_ph, qn_beg_cu]
  · unfold qn_ey; rw [qn_begn_ph e, qn_beg_cu]
theorem qn_Psi_le {p : qp_T} {S : qn_S} (ok : qp_ok p) : qn_Psi p S ≤ 48 := by
  have h : qn_Psi p S ≤ 4 * qp_m p := by
    refine qs_sum_le (fun i hi => ?_)
    have hv := (ok.2.2 i hi).2.1
    unfold qn_py
    split
    · exact hv
    · split
      · omega
      · split <;> omega
  have := ok.1
  omega
theorem qn_Phi_le {p : qp_T} {S : qn_S} (ok : qp_ok p) : qn_Phi p S ≤ 60 := by
  have h : qn_Phi p S ≤ 5 * qp_m p := by
    refine qs_sum_le (fun i hi => ?_)
    have hv := (ok.2.2 i hi).2.1
    unfold qn_ey
    split
    · omega
    · split
      · omega
      · omega
  have := ok.1
  omega
theorem qn_sg_ev {p : qp_T} {t : Nat} {D : Nat → Bool} {S : qn_S} {s c : Nat} (h : qn_sg p (qn_ev p t D S) s c = true) : ¬ D c = true ∧ qn_sg p S s c = true := by
  rw [qn_sg_iff] at h
  by_cases d : D c = true
  · rw [qn_evy_ph d] at h
    by_cases f : qn_nk S c = qp_vc p c
    · rw [if_pos f] at h; omega
    · rw [if_neg f] at h; omega
  · rw [qn_evn_ph d, qn_evn_v d] at h
    exact ⟨d, qn_sg_iff.mpr h⟩
theorem qn_nsg_ev {p : qp_T} {t : Nat} {D : Nat → Bool} {S : qn_S} {s : Nat} : qn_nsg p (qn_ev p t D S) s ≤ qn_nsg p S s :=
  qs_cnt_mono (fun c _ h => (qn_sg_ev h).2)
theorem qn_nsg_beg {p : qp_T} {t : Nat} {S : qn_S} {s c : Nat} (hm : c < qp_m p) (h1 : qn_ph S c = 1) (hs : qp_vs p (qn_v S c) = s) : qn_nsg p (qn_beg t S c) s = qn_nsg p S s + 1 := by
  refine qs_cnt_set (c := c) ?_ ?_ (fun i hi => ?_) hm
  · exact decide_eq_false (fun z => by omega)
  · exact qn_sg_iff.mpr ⟨qn_begy_ph, hs⟩
  · unfold qn_sg; rw [qn_begn_ph hi, qn_beg_v]
theorem qn_nsg_begn {p : qp_T} {t : Nat} {S : qn_S} {s c : Nat} (h1 : qn_ph S c = 1) (hs : qp_vs p (qn_v S c) ≠ s) : qn_nsg p (qn_beg t S c) s = qn_nsg p S s := by
  refine qs_cnt_ext (fun i _ => ?_)
  unfold qn_sg
  by_cases e : i = c
  · subst e; rw [qn_beg_v, decide_eq_false (fun z => hs z.2), decide_eq_false (fun z => hs z.2)]
  · rw [qn_begn_ph e, qn_beg_v]
theorem qn_pk_begn {p : qp_T} {t : Nat} {S : qn_S} {s c k : Nat} (hs : qp_vs p (qn_v S c) ≠ s) : qn_pk p (qn_beg t S c) s k = qn_pk p S s k := by
  refine qn_pk_ext (S := S) (R := qn_beg t S c) (fun _ _ => rfl) (fun d _ => ?_)
  unfold qn_wt
  by_cases e : d = c
  · subst e; rw [qn_beg_v, decide_eq_false (fun z => hs z.2), decide_eq_false (fun z => hs z.2)]
  · rw [qn_begn_ph e, qn_beg_v]
-- no more can begin at s
def qn_bl (p : qp_T) (S : qn_S) (s : Nat) : Prop := qn_nsg p S s < qp_sv p s → qn_pk p S s (qp_m p) = none
theorem qn_fl_b {p : qp_T} {t s : Nat} {S : qn_S} (h : qn_bl p S s) : ∀ n, qn_fl p t s n S = S
  | 0 => rfl
  | n + 1 => by
    unfold qn_fl
    by_cases e : qn_nsg p S s < qp_sv p s
    · rw [if_pos e, h e]
    · rw [if_neg e]
theorem qn_fl_s {p : qp_T} {t s c : Nat} {S : qn_S} (h : qn_nsg p S s < qp_sv p s) (hc : qn_pk p S s (qp_m p) = some c) (n : Nat) : qn_fl p t s (n + 1) S = qn_fl p t s n (qn_beg t S c) := by
  rw [qn_fl, if_pos h, hc]
theorem qn_fl_ind {p : qp_T} {t s : Nat} {Q : qn_S → Prop} (hb : ∀ S c, Q S → qn_nsg p S s < qp_sv p s → qn_pk p S s (qp_m p) = some c → Q (qn_beg t S c)) : ∀ n S, Q S → Q (qn_fl p t s n S)
  | 0, S, h => h
  | n + 1, S, h => by
    by_cases e : qn_nsg p S s < qp_sv p s
    · cases f : qn_pk p S s (qp_m p) with
      | none => rw [qn_fl_b (fun _ => f)]; exact h
      | some c => rw [qn_fl_s e f]; exact qn_fl_ind hb n _ (hb S c h e f)
    · rw [qn_fl_b (fun z => absurd z e)]; exact h
-- after enough begins no more can begin
theorem qn_fl_bl {p : qp_T} {t s : Nat} : ∀ n S, qp_sv p s ≤ qn_nsg p S s + n → qn_bl p (qn_fl p t s n S) s
  | 0, S, h => fun z => by
    have e : qn_fl p t s 0 S = S := rfl
    rw [e] at z
    omega
  | n + 1, S, h => by
    by_cases e : qn_nsg p S s < qp_sv p s
    · cases f : qn_pk p S s (qp_m p) with
      | none => rw [qn_fl_b (fun _ => f)]; exact fun _ => f
      | some c =>
        rw [qn_fl_s e f]
        obtain ⟨hc, hw⟩ := qn_pk_y f
        rw [qn_wt_iff] at hw
        refine qn_fl_bl n _ ?_
        rw [qn_nsg_beg hc hw.1 hw.2]
        omega
    · rw [qn_fl_b (fun z => absurd z e)]; exact fun z => absurd z e
theorem qn_bl_beg {p : qp_T} {t : Nat} {S : qn_S} {s c : Nat} (h1 : qn_ph S c = 1) (hs : qp_vs p (qn_v S c) ≠ s) (h : qn_bl p S s) : qn_bl p (qn_beg t S c) s := by
  intro z
  rw [qn_nsg_begn h1 hs] at z
  rw [qn_pk_begn hs]
  exact h z
theorem qn_bl_fl {p : qp_T} {t s r : Nat} (n : Nat) {S : qn_S} (hr : r ≠ s) (h : qn_bl p S r) : qn_bl p (qn_fl p t s n S) r := by
  refine qn_fl_ind (Q := fun R => qn_bl p R r) (fun R c hR _ hc => ?_) n S h
  have hw := (qn_pk_y hc).2
  rw [qn_wt_iff] at hw
  exact qn_bl_beg hw.1 (fun z => hr (by rw [← z, hw.2])) hR
