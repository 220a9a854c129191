def qp_SV (p : qp_T) : Nat → Int32 := fun i => nI (qp_sv p i)
def qp_RU (p : qp_T) : Nat → Int32 := fun i => nI (qp_ru p i)
def qp_AR (p : qp_T) : Nat → Int32 := fun i => nI (qp_ar p i)
def qp_VC (p : qp_T) : Nat → Int32 := fun i => nI (qp_vc p i)
def qp_VS (p : qp_T) : Nat → Int32 := fun i => nI (qp_vs p i)
def qp_VN (p : qp_T) : Nat → Int32 := fun i => nI (qp_vn p i)
theorem qp_SVe (p : qp_T) (i : Nat) : qp_SV p i = nI (qp_sv p i) := rfl
theorem qp_RUe (p : qp_T) (i : Nat) : qp_RU p i = nI (qp_ru p i) := rfl
theorem qp_ARe (p : qp_T) (i : Nat) : qp_AR p i = nI (qp_ar p i) := rfl
theorem qp_VCe (p : qp_T) (i : Nat) : qp_VC p i = nI (qp_vc p i) := rfl
theorem qp_VSe (p : qp_T) (i : Nat) : qp_VS p i = nI (qp_vs p i) := rfl
theorem qp_VNe (p : qp_T) (i : Nat) : qp_VN p i = nI (qp_vn p i) := rfl
theorem qp_upd (f : Nat → Nat) (k x : Nat) : upd (fun i => nI (f i)) k (nI x) = fun i => nI (qn_u f k x i) := by
  funext i
  by_cases e : i = k
  · subst e; rw [pk_us, qn_us]
  · rw [pk_un e, qn_un e]
def qp_wst (p : qp_T) (s n r : Nat) : qp_T := (qp_m p, qn_u (qp_sv p) s n, qn_u (qp_ru p) s r, qp_ar p, qp_vc p, qp_vs p, qp_vn p)
def qp_war (p : qp_T) (t : Nat) : qp_T := (qp_m p + 1, qp_sv p, qp_ru p, qn_u (qp_ar p) (qp_m p) t, qn_u (qp_vc p) (qp_m p) 0, qp_vs p, qp_vn p)
def qp_wvi (p : qp_T) (c s n : Nat) : qp_T := (qp_m p, qp_sv p, qp_ru p, qp_ar p, qn_u (qp_vc p) c (qp_vc p c + 1), qn_u (qp_vs p) (4 * c + qp_vc p c) s, qn_u (qp_vn p) (4 * c + qp_vc p c) n)
def qp_wdr (p : qp_T) : qp_T := (qp_m p - 1, qp_sv p, qp_ru p, qp_ar p, qp_vc p, qp_vs p, qp_vn p)
def qp_p0 : qp_T := (0, fun i => if i < 4 then 1 else 0, fun _ => 0, fun _ => 0, fun _ => 0, fun _ => 0, fun _ => 0)
theorem qp_ok0 : qp_ok qp_p0 := by
  refine ⟨Nat.zero_le _, fun s hs => ?_, fun c hc => absurd hc (Nat.not_lt_zero c)⟩
  have e : qp_sv qp_p0 s = 1 := if_pos hs
  rw [e]
  exact ⟨by omega, by omega, Nat.zero_le _⟩
theorem qp_ok_wst {p : qp_T} {s n r : Nat} (ok : qp_ok p) (h1 : 1 ≤ n) (h3 : n ≤ 3) (hr : r ≤ 2) : qp_ok (qp_wst p s n r) := by
  refine ⟨ok.1, fun q hq => ?_, fun c hc => ok.2.2 c hc⟩
  have h := ok.2.1 q hq
  show 1 ≤ qn_u (qp_sv p) s n q ∧ qn_u (qp_sv p) s n q ≤ 3 ∧ qn_u (qp_ru p) s r q ≤ 2
  by_cases e : q = s
  · subst e; rw [qn_us, qn_us]; exact ⟨h1, h3, hr⟩
  · rw [qn_un e, qn_un e]; exact h
theorem qp_ok_war {p : qp_T} {t : Nat} (ok : qp_ok p) (hm : qp_m p < 12) (ht : t ≤ 100) : qp_ok (qp_war p t) := by
  refine ⟨by show qp_m p + 1 ≤ 12; omega, fun q hq => ok.2.1 q hq, fun c hc => ?_⟩
  have hc' : c < qp_m p + 1 := hc
  show qn_u (qp_ar p) (qp_m p) t c ≤ 100 ∧ qn_u (qp_vc p) (qp_m p) 0 c ≤ 4 ∧ ∀ k, k < qn_u (qp_vc p) (qp_m p) 0 c → qp_vs p (4 * c + k) < 4 ∧ 1 ≤ qp_vn p (4 * c + k) ∧ qp_vn p (4 * c + k) ≤ 30
  by_cases e : c = qp_m p
  · rw [e, qn_us, qn_us]; exact ⟨ht, by omega, fun k hk => absurd hk (Nat.not_lt_zero k)⟩
  · rw [qn_un e, qn_un e]; exact ok.2.2 c (by omega)
theorem qp_ok_wvi {p : qp_T} {c s n : Nat} (ok : qp_ok p) (hc : c < qp_m p) (hv : qp_vc p c < 4) (hs : s < 4) (h1 : 1 ≤ n) (h3 : n ≤ 30) : qp_ok (qp_wvi p c s n) := by
  refine ⟨ok.1, fun q hq => ok.2.1 q hq, fun d hd => ?_⟩
  have h := ok.2.2 d hd
  show qp_ar p d ≤ 100 ∧ qn_u (qp_vc p) c (qp_vc p c + 1) d ≤ 4 ∧ ∀ k, k < qn_u (qp_vc p) c (qp_vc p c + 1) d → qn_u (qp_vs p) (4 * c + qp_vc p c) s (4 * d + k) < 4 ∧ 1 ≤ qn_u (qp_vn p) (4 * c + qp_vc p c) n (4 * d + k) ∧ qn_u (qp_vn p) (4 * c + qp_vc p c) n (4 * d + k) ≤ 30
  by_cases e : d = c
  · subst e
    rw [qn_us]
    refine ⟨h.1, by omega, fun k hk => ?_⟩
    by_cases f : k = qp_vc p d
    · rw [f, qn_us, qn_us]; exact ⟨hs, h1, h3⟩
    · rw [qn_un (by omega), qn_un (by omega)]; exact h.2.2 k (by omega)
  · rw [qn_un e]
    refine ⟨h.1, h.2.1, fun k hk => ?_⟩
    have := h.2.1
    rw [qn_un (by omega), qn_un (by omega)]; exact h.2.2 k hk
theorem qp_ok_wdr {p : qp_T} (ok : qp_ok p) : qp_ok (qp_wdr p) := by
  refine ⟨by show qp_m p - 1 ≤ 12; have := ok.1; omega, fun q hq => ok.2.1 q hq, fun c hc => ok.2.2 c ?_⟩
  have hc' : c < qp_m p - 1 := hc
  omega
