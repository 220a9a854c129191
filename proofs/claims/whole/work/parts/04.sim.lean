-- the plan: number of customers, servers and rule by station, arrival and number of visits by customer, station and need by 4 * c + k
abbrev qp_T : Type := Nat × (Nat → Nat) × (Nat → Nat) × (Nat → Nat) × (Nat → Nat) × (Nat → Nat) × (Nat → Nat)
def qp_m (p : qp_T) : Nat := p.1
def qp_sv (p : qp_T) : Nat → Nat := p.2.1
def qp_ru (p : qp_T) : Nat → Nat := p.2.2.1
def qp_ar (p : qp_T) : Nat → Nat := p.2.2.2.1
def qp_vc (p : qp_T) : Nat → Nat := p.2.2.2.2.1
def qp_vs (p : qp_T) : Nat → Nat := p.2.2.2.2.2.1
def qp_vn (p : qp_T) : Nat → Nat := p.2.2.2.2.2.2
def qp_okc (p : qp_T) (c : Nat) : Prop := qp_ar p c ≤ 100 ∧ qp_vc p c ≤ 4 ∧ ∀ k, k < qp_vc p c → qp_vs p (4 * c + k) < 4 ∧ 1 ≤ qp_vn p (4 * c + k) ∧ qp_vn p (4 * c + k) ≤ 30
def qp_ok (p : qp_T) : Prop := qp_m p ≤ 12 ∧ (∀ s, s < 4 → 1 ≤ qp_sv p s ∧ qp_sv p s ≤ 3 ∧ qp_ru p s ≤ 2) ∧ (∀ c, c < qp_m p → qp_okc p c)
-- a state of the run: current visit, what it does (0 to arrive, 1 waits, 2 is served, 3 has left), joins, begins, leaves
abbrev qn_S : Type := (Nat → Nat) × (Nat → Nat) × (Nat → Nat) × (Nat → Nat) × (Nat → Nat)
def qn_cu (S : qn_S) : Nat → Nat := S.1
def qn_ph (S : qn_S) : Nat → Nat := S.2.1
def qn_J (S : qn_S) : Nat → Nat := S.2.2.1
def qn_B (S : qn_S) : Nat → Nat := S.2.2.2.1
def qn_L (S : qn_S) : Nat → Nat := S.2.2.2.2
def qn_u (f : Nat → Nat) (k x : Nat) : Nat → Nat := fun j => if j = k then x else f j
theorem qn_us {f : Nat → Nat} {k x : Nat} : qn_u f k x k = x := if_pos rfl
theorem qn_un {f : Nat → Nat} {k x j : Nat} (h : j ≠ k) : qn_u f k x j = f j := if_neg h
def qn_v (S : qn_S) (c : Nat) : Nat := 4 * c + qn_cu S c
def qn_en (p : qp_T) (S : qn_S) (c : Nat) : Nat := qn_B S (qn_v S c) + qp_vn p (qn_v S c)
def qn_nk (S : qn_S) (c : Nat) : Nat := if qn_ph S c = 2 then qn_cu S c + 1 else qn_cu S c
def qn_hs (S : qn_S) (c : Nat) : Bool := decide (qn_ph S c = 0 ∨ qn_ph S c = 2)
def qn_tm (p : qp_T) (S : qn_S) (c : Nat) : Nat := if qn_ph S c = 0 then qp_ar p c else qn_en p S c
def qn_mk (S : qn_S) (c : Nat) : Nat := if qn_ph S c = 0 then 16 + c else c
def qn_num (p : qp_T) (S : qn_S) (c : Nat) : Nat := qn_tm p S c * 32 + qn_mk S c
def qn_fi (p : qp_T) (t : Nat) (S : qn_S) (c : Nat) : Bool := decide (c < qp_m p ∧ qn_hs S c = true ∧ qn_tm p S c = t)
def qn_P (p : qp_T) (S : qn_S) : Nat → Prop := fun e => ∃ c, c < qp_m p ∧ qn_hs S c = true ∧ e = qn_num p S c
-- what happens to those of D at time t (ends of service and arrivals)
def qn_ev (p : qp_T) (t : Nat) (D : Nat → Bool) (S : qn_S) : qn_S :=
  (fun c => if D c = true then qn_nk S c else qn_cu S c,
   fun c => if D c = true then (if qn_nk S c = qp_vc p c then 3 else 1) else qn_ph S c,
   fun v => if D (v / 4) = true ∧ qn_nk S (v / 4) ≠ qp_vc p (v / 4) ∧ v % 4 = qn_nk S (v / 4) then t else qn_J S v,
   qn_B S,
   fun c => if D c = true ∧ qn_nk S c = qp_vc p c then t else qn_L S c)
def qn_wt (p : qp_T) (S : qn_S) (s c : Nat) : Bool := decide (qn_ph S c = 1 ∧ qp_vs p (qn_v S c) = s)
def qn_sg (p : qp_T) (S : qn_S) (s c : Nat) : Bool := decide (qn_ph S c = 2 ∧ qp_vs p (qn_v S c) = s)
-- c (the greater number) goes before b by rule r
def qn_gb (p : qp_T) (r : Nat) (S : qn_S) (c b : Nat) : Bool :=
  if r = 1 then decide (qn_J S (qn_v S b) ≤ qn_J S (qn_v S c))
  else if r = 0 ∨ qp_vn p (qn_v S c) = qp_vn p (qn_v S b) then decide (qn_J S (qn_v S c) < qn_J S (qn_v S b))
  else decide (qp_vn p (qn_v S c) < qp_vn p (qn_v S b))
def qn_pk (p : qp_T) (S : qn_S) (s : Nat) : Nat → Option Nat
  | 0 => none
  | c + 1 => match qn_pk p S s c with
    | none => if qn_wt p S s c = true then some c else none
    | some b => if qn_wt p S s c = true ∧ qn_gb p (qp_ru p s) S c b = true then some c else some b
def qn_beg (t : Nat) (S : qn_S) (c : Nat) : qn_S :=
  (qn_cu S, qn_u (qn_ph S) c 2, qn_J S, qn_u (qn_B S) (qn_v S c) t, qn_L S)
def qn_nsg (p : qp_T) (S : qn_S) (s : Nat) : Nat := qs_cnt (qn_sg p S s) (qp_m p)
def qn_fl (p : qp_T) (t s : Nat) : Nat → qn_S → qn_S
  | 0, S => S
  | n + 1, S => if qn_nsg p S s < qp_sv p s then
      match qn_pk p S s (qp_m p) with
      | none => S
      | some c => qn_fl p t s n (qn_beg t S c)
    else S
def qn_f4 (p : qp_T) (t : Nat) (S : qn_S) : qn_S := qn_fl p t 3 3 (qn_fl p t 2 3 (qn_fl p t 1 3 (qn_fl p t 0 3 S)))
def qn_st (p : qp_T) (t : Nat) (S : qn_S) : qn_S := qn_f4 p t (qn_ev p t (qn_fi p t S) S)
def qn_0 : qn_S := (fun _ => 0, fun _ => 0, fun _ => 0, fun _ => 0, fun _ => 0)
def qn_ps (p : qp_T) : Nat → qn_S
  | 0 => qn_0
  | t + 1 => qn_st p t (qn_ps p t)
theorem qn_ev_cu (p : qp_T) (t : Nat) (D : Nat → Bool) (S : qn_S) (c : Nat) : qn_cu (qn_ev p t D S) c = if D c = true then qn_nk S c else qn_cu S c := rfl
theorem qn_ev_ph (p : qp_T) (t : Nat) (D : Nat → Bool) (S : qn_S) (c : Nat) : qn_ph (qn_ev p t D S) c = if D c = true then (if qn_nk S c = qp_vc p c then 3 else 1) else qn_ph S c := rfl
theorem qn_ev_J (p : qp_T) (t : Nat) (D : Nat → Bool) (S : qn_S) (v : Nat) : qn_J (qn_ev p t D S) v = if D (v / 4) = true ∧ qn_nk S (v / 4) ≠ qp_vc p (v / 4) ∧ v % 4 = qn_nk S (v / 4) then t else qn_J S v := rfl
theorem qn_ev_B (p : qp_T) (t : Nat) (D : Nat → Bool) (S : qn_S) : qn_B (qn_ev p t D S) = qn_B S := rfl
theorem qn_ev_L (p : qp_T) (t : Nat) (D : Nat → Bool) (S : qn_S) (c : Nat) : qn_L (qn_ev p t D S) c = if D c = true ∧ qn_nk S c = qp_vc p c then t else qn_L S c := rfl
theorem qn_ext {S R : qn_S} (h1 : ∀ c, qn_cu S c = qn_cu R c) (h2 : ∀ c, qn_ph S c = qn_ph R c) (h4 : ∀ c, qn_J S c = qn_J R c) (h5 : ∀ c, qn_B S c = qn_B R c) (h6 : ∀ c, qn_L S c = qn_L R c) : S = R :=
  Prod.ext (funext h1) (Prod.ext (funext h2) (Prod.ext (funext h4) (Prod.ext (funext h5) (funext h6))))
theorem qn_ev_none {p : qp_T} {t : Nat} {D : Nat → Bool} {S : qn_S} (h : ∀ c, D c = false) : qn_ev p t D S = S := by
  have hn : ∀ c, ¬ D c = true := fun c => by rw [h c]; decide
  exact qn_ext (fun c => by rw [qn_ev_cu, if_neg (hn c)]) (fun c => by rw [qn_ev_ph, if_neg (hn c)])
    (fun v => by rw [qn_ev_J, if_neg (fun z => hn _ z.1)]) (fun c => rfl)
    (fun c => by rw [qn_ev_L, if_neg (fun z => hn _ z.1)])
-- a customer that is not of D stays as it is
theorem qn_evn_cu {p : qp_T} {t : Nat} {D : Nat → Bool} {S : qn_S} {c : Nat} (h : ¬ D c = true) : qn_cu (qn_ev p t D S) c = qn_cu S c := by rw [qn_ev_cu, if_neg h]
theorem qn_evn_ph {p : qp_T} {t : Nat} {D : Nat → Bool} {S : qn_S} {c : Nat} (h : ¬ D c = true) : qn_ph (qn_ev p t D S) c = qn_ph S c := by rw [qn_ev_ph, if_neg h]
theorem qn_evn_L {p : qp_T} {t : Nat} {D : Nat → Bool} {S : qn_S} {c : Nat} (h : ¬ D c = true) : qn_L (qn_ev p t D S) c = qn_L S c := by rw [qn_ev_L, if_neg (fun z => h z.1)]
theorem qn_d4 {c k : Nat} (h : k < 4) : (4 * c + k) / 4 = c := by omega
theorem qn_m4 {c k : Nat} (h : k < 4) : (4 * c + k) % 4 = k := by omega
theorem qn_evn_J {p : qp_T} {t : Nat} {D : Nat → Bool} {S : qn_S} {c k : Nat} (hk : k < 4) (h : ¬ D c = true) : qn_J (qn_ev p t D S) (4 * c + k) = qn_J S (4 * c + k) := by
  rw [qn_ev_J, qn_d4 hk, if_neg (fun z => h z.1)]
theorem qn_evy_J {p : qp_T} {t : Nat} {D : Nat → Bool} {S : qn_S} {c k : Nat} (hk : k < 4) (h : D c = true) : qn_J (qn_ev p t D S) (4 * c + k) = if qn_nk S c ≠ qp_vc p c ∧ k = qn_nk S c then t else qn_J S (4 * c + k) := by
  rw [qn_ev_J, qn_d4 hk, qn_m4 hk]
  by_cases e : qn_nk S c ≠ qp_vc p c ∧ k = qn_nk S c
  · rw [if_pos e, if_pos ⟨h, e⟩]
  · rw [if_neg e, if_neg (fun z => e z.2)]
theorem qn_evn_nk {p : qp_T} {t : Nat} {D : Nat → Bool} {S : qn_S} {c : Nat} (h : ¬ D c = true) : qn_nk (qn_ev p t D S) c = qn_nk S c := by
  unfold qn_nk; rw [qn_evn_cu h, qn_evn_ph h]
theorem qn_evn_v {p : qp_T} {t : Nat} {D : Nat → Bool} {S : qn_S} {c : Nat} (h : ¬ D c = true) : qn_v (qn_ev p t D S) c = qn_v S c := by
  unfold qn_v; rw [qn_evn_cu h]
theorem qn_evn_hs {p : qp_T} {t : Nat} {D : Nat → Bool} {S : qn_S} {c : Nat} (h : ¬ D c = true) : qn_hs (qn_ev p t D S) c = qn_hs S c := by
  unfold qn_hs; rw [qn_evn_ph h]
theorem qn_evn_en {p : qp_T} {t : Nat} {D : Nat → Bool} {S : qn_S} {c : Nat} (h : ¬ D c = true) : qn_en p (qn_ev p t D S) c = qn_en p S c := by
  unfold qn_en; rw [qn_evn_v h, qn_ev_B]
theorem qn_evn_tm {p : qp_T} {t : Nat} {D : Nat → Bool} {S : qn_S} {c : Nat} (h : ¬ D c = true) : qn_tm p (qn_ev p t D S) c = qn_tm p S c := by
  unfold qn_tm; rw [qn_evn_ph h, qn_evn_en h]
theorem qn_evn_num {p : qp_T} {t : Nat} {D : Nat → Bool} {S : qn_S} {c : Nat} (h : ¬ D c = true) : qn_num p (qn_ev p t D S) c = qn_num p S c := by
  unfold qn_num qn_mk; rw [qn_evn_ph h, qn_evn_tm h]
theorem qn_evy_ph {p : qp_T} {t : Nat} {D : Nat → Bool} {S : qn_S} {c : Nat} (h : D c = true) : qn_ph (qn_ev p t D S) c = if qn_nk S c = qp_vc p c then 3 else 1 := by rw [qn_ev_ph, if_pos h]
theorem qn_evy_cu {p : qp_T} {t : Nat} {D : Nat → Bool} {S : qn_S} {c : Nat} (h : D c = true) : qn_cu (qn_ev p t D S) c = qn_nk S c := by rw [qn_ev_cu, if_pos h]
theorem qn_evy_hs {p : qp_T} {t : Nat} {D : Nat → Bool} {S : qn_S} {c : Nat} (h : D c = true) : qn_hs (qn_ev p t D S) c = false := by
  unfold qn_hs
  rw [qn_evy_ph h]
  by_cases e : qn_nk S c = qp_vc p c
  · rw [if_pos e]; rfl
  · rw [if_neg e]; rfl
def qn_one (c d : Nat) : Bool := decide (d = c)
theorem qn_one_s (c : Nat) : qn_one c c = true := decide_eq_true rfl
theorem qn_one_n {c d : Nat} (h : d ≠ c) : ¬ qn_one c d = true := fun z => h (of_decide_eq_true z)
theorem qn_ev_one {p : qp_T} {t : Nat} {D : Nat → Bool} {S : qn_S} {c : Nat} (h : ¬ D c = true) : qn_ev p t (qn_one c) (qn_ev p t D S) = qn_ev p t (fun d => D d || qn_one c d) S := by
  have hk := qn_evn_nk (p := p) (t := t) (S := S) h
  have hor : ∀ d, d ≠ c → ((D d || qn_one c d) = D d) := fun d hd => by
    have : qn_one c d = false := decide_eq_false hd
    rw [this, Bool.or_false]
  have hc : (D c || qn_one c c) = true := by rw [qn_one_s, Bool.or_true]
  refine qn_ext (fun d => ?_) (fun d => ?_) (fun v => ?_) (fun d => rfl) (fun d => ?_)
  · rw [qn_ev_cu, qn_ev_cu (D := fun d => D d || qn_one c d)]
    by_cases e : d = c
    · subst e; rw [if_pos (qn_one_s d), hk]; rw [if_pos hc]
    · rw [if_neg (qn_one_n e), qn_ev_cu]; rw [hor d e]
  · rw [qn_ev_ph, qn_ev_ph (D := fun d => D d || qn_one c d)]
    by_cases e : d = c
    · subst e; rw [if_pos (qn_one_s d), hk]; rw [if_pos hc]
    · rw [if_neg (qn_one_n e), qn_ev_ph]; rw [hor d e]
  · rw [qn_ev_J, qn_ev_J (D := fun d => D d || qn_one c d)]
    by_cases e : v / 4 = c
    · rw [e, hk]
      by_cases f : qn_nk S c ≠ qp_vc p c ∧ v % 4 = qn_nk S c
      · rw [if_pos ⟨qn_one_s c, f⟩, if_pos ⟨hc, f⟩]
      · rw [if_neg (fun z => f z.2), if_neg (fun z => f z.2), qn_ev_J, e, if_neg (fun z => h z.1)]
    · rw [hor _ e, if_neg (fun z => qn_one_n e z.1), qn_ev_J]
  · rw [qn_ev_L, qn_ev_L (D := fun d => D d || qn_one c d)]
    by_cases e : d = c
    · subst e
      rw [hk]
      by_cases f : qn_nk S d = qp_vc p d
      · rw [if_pos ⟨qn_one_s d, f⟩, if_pos ⟨hc, f⟩]
      · rw [if_neg (fun z => f z.2), if_neg (fun z => f z.2), qn_evn_L h]
    · rw [hor _ e, if_neg (fun z => qn_one_n e z.1), qn_ev_L]
-- the pick
theorem qn_pk_n {p : qp_T} {S : qn_S} {s : Nat} : ∀ {k : Nat}, qn_pk p S s k = none → ∀ d, d < k → ¬ qn_wt p S s d = true
  | 0, _, d, hd => absurd hd (by omega)
  | k + 1, h, d, hd => by
    unfold qn_pk at h
    cases e : qn_pk p S s k with
    | none =>
      rw [e] at h
      dsimp only at h
      by_cases w : qn_wt p S s k = true
      · rw [if_pos w] at h; exact absurd h (by intro z; cases z)
      · by_cases f : d = k
        · rw [f]; exact w
        · exact qn_pk_n e d (by omega)
    | some b =>
      rw [e] at h
      dsimp only at h
      by_cases w : qn_wt p S s k = true ∧ qn_gb p (qp_ru p s) S k b = true
      · rw [if_pos w] at h; exact absurd h (by intro z; cases z)
      · rw [if_neg w] at h; exact absurd h (by intro z; cases z)
theorem qn_pk_y {p : qp_T} {S : qn_S} {s b : Nat} : ∀ {k : Nat}, qn_pk p S s k = some b → b < k ∧ qn_wt p S s b = true
  | 0, h => by unfold qn_pk at h; cases h
  | k + 1, h => by
    unfold qn_pk at h
    cases e : qn_pk p S s k with
    | none =>
      rw [e] at h
      dsimp only at h
      by_cases w : qn_wt p S s k = true
      · rw [if_pos w] at h
        cases h
        exact ⟨by omega, w⟩
      · rw [if_neg w] at h; cases h
    | some d =>
      rw [e] at h
      dsimp only at h
      by_cases w : qn_wt p S s k = true ∧ qn_gb p (qp_ru p s) S k d = true
      · rw [if_pos w] at h
        cases h
        exact ⟨by omega, w.1⟩
      · rw [if_neg w] at h
        cases h
        have := qn_pk_y e
        exact ⟨by omega, this.2⟩
theorem qn_pk_none {p : qp_T} {S : qn_S} {s : Nat} : ∀ {k : Nat}, (∀ d, d < k → ¬ qn_wt p S s d = true) → qn_pk p S s k = none
  | 0, _ => rfl
  | k + 1, h => by
    unfold qn_pk
    rw [qn_pk_none (k := k) (fun d hd => h d (by omega))]
    dsimp only
    rw [if_neg (h k (by omega))]
theorem qn_pk_ext {p : qp_T} {S R : qn_S} {s : Nat} (hg : ∀ c b, qn_gb p (qp_ru p s) R c b = qn_gb p (qp_ru p s) S c b) : ∀ {k : Nat}, (∀ d, d < k → qn_wt p R s d = qn_wt p S s d) → qn_pk p R s k = qn_pk p S s k
  | 0, _ => rfl
  | k + 1, h => by
    unfold qn_pk
    rw [qn_pk_ext hg (k := k) (fun d hd => h d (by omega)), h k (by omega)]
    cases qn_pk p S s k with
    | none => rfl
    | some b => dsimp only; rw [hg]
