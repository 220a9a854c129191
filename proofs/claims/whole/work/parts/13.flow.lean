-- nothing of t is left: all that fire have fired
theorem qn_D_all {p : qp_T} {t : Nat} {S : qn_S} {D : Nat → Bool} (hD : ∀ c, D c = true → qn_fi p t S c = true) (hn : ∀ c, c < qp_m p → qn_hs (qn_ev p t D S) c = true → qn_tm p (qn_ev p t D S) c ≠ t) : D = qn_fi p t S := by
  funext c
  by_cases d : D c = true
  · rw [d, hD c d]
  · by_cases f : qn_fi p t S c = true
    · exfalso
      obtain ⟨f1, f2, f3⟩ := qn_fi_iff.mp f
      refine hn c f1 ?_ ?_
      · rw [qn_evn_hs d]; exact f2
      · rw [qn_evn_tm d]; exact f3
    · rw [Bool.eq_false_iff.mpr d, Bool.eq_false_iff.mpr f]
-- one that has an event to come in the midst, of time t: it fires, and hasn't yet
theorem qn_D_in {p : qp_T} {t c : Nat} {S : qn_S} {D : Nat → Bool} (hc : c < qp_m p) (hh : qn_hs (qn_ev p t D S) c = true) (ht : qn_tm p (qn_ev p t D S) c = t) : ¬ D c = true ∧ qn_fi p t S c = true := by
  have d : ¬ D c = true := by
    intro d
    rw [qn_evy_hs d] at hh
    exact absurd hh (by decide)
  rw [qn_evn_hs d] at hh
  rw [qn_evn_tm d] at ht
  exact ⟨d, qn_fi_iff.mpr ⟨hc, hh, ht⟩⟩
theorem qn_D_or {p : qp_T} {t c : Nat} {S : qn_S} {D : Nat → Bool} (hD : ∀ c, D c = true → qn_fi p t S c = true) (h : qn_fi p t S c = true) : ∀ d, (D d || qn_one c d) = true → qn_fi p t S d = true := by
  intro d hd
  rcases (Bool.or_eq_true _ _).mp hd with z | z
  · exact hD d z
  · have e : d = c := of_decide_eq_true z
    rw [e]; exact h
theorem qn_num_tm {p : qp_T} {S : qn_S} {c d : Nat} (hc : c < 12) (hd : d < 12) (h : qn_num p S c ≤ qn_num p S d) : qn_tm p S c ≤ qn_tm p S d := by
  have h1 := qn_num_d (p := p) (S := S) hc
  have h2 := qn_num_d (p := p) (S := S) hd
  omega
-- the stations before s have been filled
def qn_fs (p : qp_T) (t : Nat) (S : qn_S) : Nat → qn_S
  | 0 => S
  | s + 1 => qn_fl p t s 3 (qn_fs p t S s)
theorem qn_fs_4 (p : qp_T) (t : Nat) (S : qn_S) : qn_f4 p t S = qn_fs p t S 4 := rfl
theorem qn_Q_fs {p : qp_T} {t : Nat} {S : qn_S} (ok : qp_ok p) (Q : qn_Q p t (t + 1) S) : ∀ s, s ≤ 4 → qn_Q p t (t + 1) (qn_fs p t S s)
  | 0, _ => Q
  | s + 1, h => qn_Q_fl ok (by omega) 3 (qn_Q_fs ok Q s (by omega))
theorem qn_Phi_fl {p : qp_T} {t s n : Nat} {S : qn_S} : qn_Phi p (qn_fl p t s n S) = qn_Phi p S := by
  refine qn_fl_ind (Q := fun R => qn_Phi p R = qn_Phi p S) (fun R c hR _ hc => ?_) n S rfl
  rw [qn_Phi_beg (qn_wt_iff.mp (qn_pk_y hc).2).1]
  exact hR
theorem qn_Phi_st {p : qp_T} {t c : Nat} {S : qn_S} (w : ∀ c, c < qp_m p → qn_wf p S c) (h : qn_fi p t S c = true) : qn_Phi p (qn_st p t S) + 1 ≤ qn_Phi p S := by
  unfold qn_st qn_f4
  rw [qn_Phi_fl, qn_Phi_fl, qn_Phi_fl, qn_Phi_fl]
  exact qn_Phi_ev w (fun d hd => (qn_fi_iff.mp hd).2.1) (qn_fi_iff.mp h).1 h
-- from event to event
theorem qn_next {p : qp_T} {T c : Nat} (ok : qp_ok p) (hc : c < qp_m p) (hh : qn_hs (qn_ps p T) c = true) (hl : ∀ x, qn_P p (qn_ps p T) x → qn_num p (qn_ps p T) c ≤ x) : T ≤ qn_tm p (qn_ps p T) c ∧ qn_ps p (qn_tm p (qn_ps p T) c) = qn_ps p T := by
  obtain ⟨a1, a2, a3, a4, a5⟩ := qn_A_ps ok T
  have hm := ok.1
  have h1 := a4 c hc hh
  refine ⟨h1, qn_stay (n := qn_tm p (qn_ps p T) c) a5 (fun r d hr hlt z => ?_) _ h1 (Nat.le_refl _)⟩
  obtain ⟨f1, f2, f3⟩ := qn_fi_iff.mp z
  have h2 := hl _ ⟨d, f1, f2, rfl⟩
  have h3 := qn_num_tm (by omega) (by omega) h2
  omega
theorem qn_Phi_0 {p : qp_T} {S : qn_S} (w : ∀ c, c < qp_m p → qn_wf p S c) (h : qn_Phi p S = 0) : qn_nh p S = 0 := by
  rcases Nat.eq_zero_or_pos (qn_nh p S) with z | z
  · exact z
  · exfalso
    obtain ⟨x, c, hc, hh, _⟩ := qn_nh_ex z
    have h1 := qs_sum_mem (f := qn_ey p S) hc
    have h2 : qn_ey p S c = 0 := by unfold qn_Phi at h; omega
    have h3 := w c hc
    unfold qn_wf at h3
    rcases qn_hs_iff.mp hh with e | e
    · rw [qn_ey_0 e] at h2; omega
    · rw [qn_ey_2 e] at h2; omega
