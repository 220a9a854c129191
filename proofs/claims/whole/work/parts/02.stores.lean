def qs_w (A : Nat → Nat) (k : Nat) (x : Nat) : Nat → Nat := fun j => if j = k then x else A j
def qs_sw (A : Nat → Nat) (p q : Nat) : Nat → Nat := qs_w (qs_w A p (A q)) q (A p)
def qs_St (A : Nat → Nat) (n : Nat) (P : Nat → Prop) : Prop :=
  (∀ i, i < n → P (A i)) ∧ (∀ e, P e → ∃ i, i < n ∧ A i = e) ∧ (∀ i j, i < j → j < n → A i ≠ A j)
theorem qs_ws (A : Nat → Nat) (k : Nat) (x : Nat) : qs_w A k x k = x := by unfold qs_w; rw [if_pos rfl]
theorem qs_wn {A : Nat → Nat} {k j : Nat} {x : Nat} (h : j ≠ k) : qs_w A k x j = A j := by unfold qs_w; rw [if_neg h]
theorem qs_swl (A : Nat → Nat) (p q : Nat) : qs_sw A p q p = A q := by
  unfold qs_sw
  by_cases h : p = q
  · subst h; rw [qs_ws]
  · rw [qs_wn h, qs_ws]
theorem qs_swr (A : Nat → Nat) (p q : Nat) : qs_sw A p q q = A p := by unfold qs_sw; rw [qs_ws]
theorem qs_swn {A : Nat → Nat} {p q j : Nat} (hp : j ≠ p) (hq : j ≠ q) : qs_sw A p q j = A j := by unfold qs_sw; rw [qs_wn hq, qs_wn hp]
-- a hole that moves is a swap of the array with the hole filled
theorem qs_hole {A : Nat → Nat} {p q : Nat} {e : Nat} (h : p ≠ q) : qs_w (qs_w A p (A q)) q e = qs_sw (qs_w A p e) p q := by
  funext j
  by_cases hq : j = q
  · subst hq; rw [qs_ws, qs_swr, qs_ws]
  · by_cases hp : j = p
    · subst hp; rw [qs_wn hq, qs_ws, qs_swl, qs_wn (Ne.symm h)]
    · rw [qs_wn hq, qs_wn hp, qs_swn hp hq, qs_wn hp]
theorem qs_dis {A : Nat → Nat} {n : Nat} {P : Nat → Prop} (h : qs_St A n P) {i j : Nat} (hi : i < n) (hj : j < n) (e : A i = A j) : i = j := by
  rcases Nat.lt_trichotomy i j with l | l | l
  · exact absurd e (h.2.2 i j l hj)
  · exact l
  · exact absurd e.symm (h.2.2 j i l hi)
theorem qs_app {A : Nat → Nat} {n : Nat} {P : Nat → Prop} {e : Nat} (h : qs_St A n P) (he : ¬ P e) : qs_St (qs_w A n e) (n + 1) (fun x => P x ∨ x = e) := by
  refine ⟨fun i hi => ?_, fun x hx => ?_, fun i j hij hj => ?_⟩
  · by_cases c : i = n
    · subst c; rw [qs_ws]; exact Or.inr rfl
    · rw [qs_wn c]; exact Or.inl (h.1 i (by omega))
  · rcases hx with hx | hx
    · obtain ⟨i, hi, ei⟩ := h.2.1 x hx
      exact ⟨i, by omega, by rw [qs_wn (by omega)]; exact ei⟩
    · exact ⟨n, by omega, by rw [qs_ws, hx]⟩
  · by_cases c : j = n
    · subst c
      rw [qs_ws, qs_wn (by omega)]
      intro z
      exact he (z ▸ h.1 i hij)
    · rw [qs_wn c, qs_wn (by omega)]
      exact h.2.2 i j hij (by omega)
-- the last slot goes to the place p of the one that is taken away
theorem qs_rm {A : Nat → Nat} {n p : Nat} {P : Nat → Prop} (h : qs_St A (n + 1) P) (hp : p ≤ n) : qs_St (qs_w A p (A n)) n (fun x => P x ∧ x ≠ A p) := by
  refine ⟨fun i hi => ?_, fun x hx => ?_, fun i j hij hj => ?_⟩
  · by_cases c : i = p
    · subst c
      rw [qs_ws]
      exact ⟨h.1 n (by omega), fun z => absurd (qs_dis h (by omega) (by omega) z) (by omega)⟩
    · rw [qs_wn c]
      exact ⟨h.1 i (by omega), fun z => c (qs_dis h (by omega) (by omega) z)⟩
  · obtain ⟨i, hi, ei⟩ := h.2.1 x hx.1
    have hne : i ≠ p := fun z => hx.2 (by rw [← ei, z])
    by_cases c : i = n
    · exact ⟨p, by omega, by rw [qs_ws, ← ei, c]⟩
    · exact ⟨i, by omega, by rw [qs_wn hne]; exact ei⟩
  · intro z
    by_cases ci : i = p
    · rw [ci, qs_ws, qs_wn (by omega)] at z
      exact absurd (qs_dis h (by omega) (by omega) z) (by omega)
    · by_cases cj : j = p
      · rw [cj, qs_ws, qs_wn (by omega)] at z
        exact absurd (qs_dis h (by omega) (by omega) z) (by omega)
      · rw [qs_wn ci, qs_wn cj] at z
        exact absurd (qs_dis h (by omega) (by omega) z) (by omega)
def qs_tr (p q i : Nat) : Nat := if i = p then q else if i = q then p else i
theorem qs_sw_tr (A : Nat → Nat) (p q i : Nat) : qs_sw A p q i = A (qs_tr p q i) := by
  unfold qs_tr
  by_cases hp : i = p
  · rw [if_pos hp, hp, qs_swl]
  · rw [if_neg hp]
    by_cases hq : i = q
    · rw [if_pos hq, hq, qs_swr]
    · rw [if_neg hq, qs_swn hp hq]
theorem qs_tr_lt {p q i n : Nat} (hp : p < n) (hq : q < n) (hi : i < n) : qs_tr p q i < n := by
  unfold qs_tr; split
  · exact hq
  · split <;> assumption
theorem qs_tr_tr (p q i : Nat) : qs_tr p q (qs_tr p q i) = i := by
  unfold qs_tr
  by_cases hp : i = p
  · subst hp
    rw [if_pos rfl]
    by_cases h : q = i
    · rw [if_pos h, h]
    · rw [if_neg h, if_pos rfl]
  · rw [if_neg hp]
    by_cases hq : i = q
    · rw [if_pos hq, if_pos rfl, hq]
    · rw [if_neg hq, if_neg hp, if_neg hq]
theorem qs_swap {A : Nat → Nat} {n p q : Nat} {P : Nat → Prop} (h : qs_St A n P) (hp : p < n) (hq : q < n) : qs_St (qs_sw A p q) n P := by
  refine ⟨fun i hi => ?_, fun x hx => ?_, fun i j hij hj => ?_⟩
  · rw [qs_sw_tr]; exact h.1 _ (qs_tr_lt hp hq hi)
  · obtain ⟨i, hi, ei⟩ := h.2.1 x hx
    exact ⟨qs_tr p q i, qs_tr_lt hp hq hi, by rw [qs_sw_tr, qs_tr_tr]; exact ei⟩
  · rw [qs_sw_tr, qs_sw_tr]
    intro z
    have := qs_dis h (qs_tr_lt hp hq (Nat.lt_trans hij hj)) (qs_tr_lt hp hq hj) z
    have e : qs_tr p q (qs_tr p q i) = qs_tr p q (qs_tr p q j) := by rw [this]
    rw [qs_tr_tr, qs_tr_tr] at e
    omega
-- engine 1: the list falls; the slot pl is out of order while the new one moves down
def qs_fall (A : Nat → Nat) (n : Nat) : Prop := ∀ i j, i < j → j < n → A j < A i
def qs_fallx (A : Nat → Nat) (n pl : Nat) : Prop := (∀ i j, i < j → j < n → i ≠ pl → j ≠ pl → A j < A i) ∧ ∀ j, pl < j → j < n → A j < A pl
theorem qs_fall0 {A : Nat → Nat} {n : Nat} {e : Nat} (h : qs_fall A n) : qs_fallx (qs_w A n e) (n + 1) n := by
  refine ⟨fun i j hij hj hi hn => ?_, fun j hj hn => by omega⟩
  rw [qs_wn hi, qs_wn hn]
  exact h i j hij (by omega)
theorem qs_falls {A : Nat → Nat} {n pl : Nat} (h : qs_fallx A n (pl + 1)) (hpl : pl + 1 < n) (hl : A pl < A (pl + 1)) : qs_fallx (qs_sw A (pl + 1) pl) n pl := by
  refine ⟨fun i j hij hj hi hn => ?_, fun j hj hn => ?_⟩
  · by_cases ci : i = pl + 1
    · subst ci
      rw [qs_swl, qs_swn (by omega) (by omega)]
      exact h.1 pl j (by omega) hj (by omega) (by omega)
    · by_cases cj : j = pl + 1
      · subst cj
        rw [qs_swl, qs_swn ci hi]
        exact h.1 i pl (by omega) (by omega) ci (by omega)
      · rw [qs_swn ci hi, qs_swn cj hn]
        exact h.1 i j hij hj ci cj
  · rw [qs_swr]
    by_cases cj : j = pl + 1
    · subst cj; rw [qs_swl]; exact hl
    · rw [qs_swn cj (by omega)]; exact h.2 j (by omega) hn
theorem qs_falle {A : Nat → Nat} {n pl : Nat} (h : qs_fallx A n pl) (hl : ∀ i, i + 1 = pl → A pl < A i) : qs_fall A n := by
  intro i j hij hj
  by_cases ci : i = pl
  · subst ci; exact h.2 j hij hj
  · by_cases cj : j = pl
    · subst cj
      by_cases c : i + 1 = j
      · exact hl i c
      · have h1 := hl (j - 1) (by omega)
        have h2 := h.1 i (j - 1) (by omega) (by omega) ci (by omega)
        omega
    · exact h.1 i j hij hj ci cj
-- engine 2: the heap
def qs_hp (A : Nat → Nat) (n : Nat) : Prop := ∀ i, 0 < i → i < n → A ((i - 1) / 2) ≤ A i
def qs_up (A : Nat → Nat) (n pl : Nat) : Prop :=
  (∀ i, 0 < i → i < n → i ≠ pl → A ((i - 1) / 2) ≤ A i) ∧ ∀ i, 0 < i → i < n → (i - 1) / 2 = pl → 0 < pl → A ((pl - 1) / 2) ≤ A i
def qs_dn (A : Nat → Nat) (n pl : Nat) : Prop :=
  (∀ i, 0 < i → i < n → (i - 1) / 2 ≠ pl → A ((i - 1) / 2) ≤ A i) ∧ ∀ i, 0 < i → i < n → (i - 1) / 2 = pl → 0 < pl → A ((pl - 1) / 2) ≤ A i
theorem qs_top {A : Nat → Nat} {n : Nat} (h : qs_hp A n) : ∀ i, i < n → A 0 ≤ A i := by
  intro i
  induction i using Nat.strongRecOn with
  | ind i ih =>
    intro hi
    by_cases c : i = 0
    · subst c; exact Nat.le_refl _
    · have h1 := ih ((i - 1) / 2) (by omega) (by omega)
      have h2 := h i (by omega) hi
      omega
theorem qs_up0 {A : Nat → Nat} {n : Nat} {e : Nat} (h : qs_hp A n) : qs_up (qs_w A n e) (n + 1) n := by
  refine ⟨fun i h0 hi hn => ?_, fun i h0 hi hq hp => by omega⟩
  rw [qs_wn hn, qs_wn (by omega)]
  exact h i h0 (by omega)
theorem qs_ups {A : Nat → Nat} {n pl : Nat} (h : qs_up A n pl) (h0 : 0 < pl) (hn : pl < n) (hl : A pl ≤ A ((pl - 1) / 2)) : qs_up (qs_sw A pl ((pl - 1) / 2)) n ((pl - 1) / 2) := by
  have hne : (pl - 1) / 2 ≠ pl := by omega
  refine ⟨fun i i0 hi hp => ?_, fun i i0 hi hq hp => ?_⟩
  · by_cases c : i = pl
    · subst c; rw [qs_swr, qs_swl]; exact hl
    · rw [qs_swn (j := i) c hp]
      by_cases d : (i - 1) / 2 = pl
      · rw [d, qs_swl]; exact h.2 i i0 hi d h0
      · by_cases f : (i - 1) / 2 = (pl - 1) / 2
        · rw [f, qs_swr]
          have := h.1 i i0 hi c
          rw [f] at this
          omega
        · rw [qs_swn d f]; exact h.1 i i0 hi c
  · have hg : ((pl - 1) / 2 - 1) / 2 ≠ pl := by omega
    have hg' : ((pl - 1) / 2 - 1) / 2 ≠ (pl - 1) / 2 := by omega
    have hb := h.1 ((pl - 1) / 2) hp (by omega) hne
    rw [qs_swn hg hg']
    by_cases c : i = pl
    · subst c; rw [qs_swl]; exact hb
    · rw [qs_swn (j := i) c (by omega)]
      have := h.1 i i0 hi c
      rw [hq] at this
      omega
theorem qs_upe {A : Nat → Nat} {n pl : Nat} (h : qs_up A n pl) (hl : 0 < pl → A ((pl - 1) / 2) ≤ A pl) : qs_hp A n := by
  intro i i0 hi
  by_cases c : i = pl
  · subst c; exact hl i0
  · exact h.1 i i0 hi c
theorem qs_dn0 {A : Nat → Nat} {n : Nat} {e : Nat} (h : qs_hp A (n + 1)) : qs_dn (qs_w A 0 e) n 0 := by
  refine ⟨fun i i0 hi hq => ?_, fun i i0 hi hq hp => by omega⟩
  rw [qs_wn hq, qs_wn (by omega)]
  exact h i i0 (by omega)
theorem qs_dns {A : Nat → Nat} {n pl ch : Nat} (h : qs_dn A n pl) (hc0 : 0 < ch) (hc : ch < n) (hp : (ch - 1) / 2 = pl) (hl : A ch ≤ A pl) (hs : ∀ i, 0 < i → i < n → (i - 1) / 2 = pl → A ch ≤ A i) : qs_dn (qs_sw A pl ch) n ch := by
  have hne : pl ≠ ch := by omega
  refine ⟨fun i i0 hi hq => ?_, fun i i0 hi hq h0 => ?_⟩
  · by_cases c : i = ch
    · subst c; rw [hp, qs_swl, qs_swr]; exact hl
    · by_cases d : i = pl
      · subst d
        rw [qs_swl, qs_swn (by omega) (by omega)]
        exact h.2 ch hc0 hc hp i0
      · rw [qs_swn (j := i) d c]
        by_cases f : (i - 1) / 2 = pl
        · rw [f, qs_swl]; exact hs i i0 hi f
        · rw [qs_swn f hq]; exact h.1 i i0 hi f
  · rw [hp, qs_swl, qs_swn (j := i) (by omega) (by omega)]
    have := h.1 i i0 hi (by omega)
    rw [hq] at this
    exact this
theorem qs_dne {A : Nat → Nat} {n pl : Nat} (h : qs_dn A n pl) (hs : ∀ i, 0 < i → i < n → (i - 1) / 2 = pl → A pl ≤ A i) : qs_hp A n := by
  intro i i0 hi
  by_cases c : (i - 1) / 2 = pl
  · rw [c]; exact hs i i0 hi c
  · exact h.1 i i0 hi c
-- how many of the customers below m have something (a count by a Bool)
def qs_cnt (b : Nat → Bool) : Nat → Nat
  | 0 => 0
  | m + 1 => qs_cnt b m + (if b m = true then 1 else 0)
theorem qs_cnt_le (b : Nat → Bool) : ∀ m, qs_cnt b m ≤ m
  | 0 => Nat.le_refl 0
  | m + 1 => by
    have := qs_cnt_le b m
    show qs_cnt b m + _ ≤ m + 1
    split <;> omega
theorem qs_cnt_ext {b d : Nat → Bool} : ∀ {m : Nat}, (∀ i, i < m → b i = d i) → qs_cnt b m = qs_cnt d m
  | 0, _ => rfl
  | m + 1, h => by
    show qs_cnt b m + _ = qs_cnt d m + _
    rw [qs_cnt_ext (fun i hi => h i (by omega)), h m (by omega)]
theorem qs_cnt_set {b d : Nat → Bool} {c : Nat} (hb : b c = false) (hd : d c = true) (h : ∀ i, i ≠ c → d i = b i) : ∀ {m : Nat}, c < m → qs_cnt d m = qs_cnt b m + 1
  | 0, hc => absurd hc (by omega)
  | m + 1, hc => by
    show qs_cnt d m + _ = qs_cnt b m + _ + 1
    by_cases e : c = m
    · subst e
      rw [qs_cnt_ext (b := d) (d := b) (fun i hi => h i (by omega)), hb, hd]
      rfl
    · rw [qs_cnt_set hb hd h (m := m) (by omega), h m (fun z => e z.symm)]
      omega
theorem qs_cnt_0 {b : Nat → Bool} : ∀ {m : Nat}, qs_cnt b m = 0 → ∀ c, c < m → b c = false
  | 0, _, c, hc => absurd hc (by omega)
  | m + 1, h, c, hc => by
    have h' : qs_cnt b m + (if b m = true then 1 else 0) = 0 := h
    by_cases e : c = m
    · subst e
      by_cases hb : b c = true
      · rw [if_pos hb] at h'; omega
      · exact Bool.eq_false_iff.mpr hb
    · exact qs_cnt_0 (m := m) (by omega) c (by omega)
theorem qs_cnt_pos {b : Nat → Bool} {m c : Nat} (hc : c < m) (hb : b c = true) : 0 < qs_cnt b m := by
  rcases Nat.eq_zero_or_pos (qs_cnt b m) with h | h
  · have := qs_cnt_0 h c hc
    rw [hb] at this
    exact absurd this (by decide)
  · exact h
theorem qs_cnt_add {b d e : Nat → Bool} : ∀ {m : Nat}, (∀ i, i < m → (if e i = true then 1 else 0) = (if b i = true then 1 else 0) + (if d i = true then 1 else 0)) → qs_cnt e m = qs_cnt b m + qs_cnt d m
  | 0, _ => rfl
  | m + 1, h => by
    show qs_cnt e m + _ = (qs_cnt b m + _) + (qs_cnt d m + _)
    rw [qs_cnt_add (fun i hi => h i (by omega)), h m (by omega)]
    omega
theorem qs_cnt_mono {b d : Nat → Bool} : ∀ {m : Nat}, (∀ i, i < m → b i = true → d i = true) → qs_cnt b m ≤ qs_cnt d m
  | 0, _ => Nat.le_refl 0
  | m + 1, h => by
    show qs_cnt b m + _ ≤ qs_cnt d m + _
    have h1 := qs_cnt_mono (b := b) (d := d) (m := m) (fun i hi => h i (by omega))
    have h2 := h m (by omega)
    by_cases hb : b m = true
    · rw [if_pos hb, if_pos (h2 hb)]; omega
    · rw [if_neg hb]; split <;> omega
theorem qs_cnt_lt {b d : Nat → Bool} {c : Nat} : ∀ {m : Nat}, (∀ i, i < m → b i = true → d i = true) → c < m → b c = false → d c = true → qs_cnt b m + 1 ≤ qs_cnt d m
  | 0, _, hc, _, _ => absurd hc (by omega)
  | m + 1, h, hc, hb, hd => by
    show qs_cnt b m + _ + 1 ≤ qs_cnt d m + _
    by_cases e : c = m
    · subst e
      have h1 := qs_cnt_mono (b := b) (d := d) (m := c) (fun i hi => h i (by omega))
      have hb' : ¬ b c = true := by rw [hb]; decide
      rw [if_neg hb', if_pos hd]; omega
    · have h1 := qs_cnt_lt (b := b) (d := d) (m := m) (fun i hi => h i (by omega)) (by omega) hb hd
      have h2 := h m (by omega)
      by_cases hb2 : b m = true
      · rw [if_pos hb2, if_pos (h2 hb2)]; omega
      · rw [if_neg hb2]; split <;> omega
-- nothing is counted from a to m
theorem qs_cnt_z {b : Nat → Bool} {a : Nat} : ∀ {m : Nat}, a ≤ m → (∀ i, a ≤ i → i < m → b i = false) → qs_cnt b m = qs_cnt b a
  | 0, h, _ => by
    have : a = 0 := by omega
    rw [this]
  | m + 1, h, hz => by
    by_cases e : a = m + 1
    · rw [e]
    · have h1 := qs_cnt_z (b := b) (a := a) (m := m) (by omega) (fun i hi hm => hz i hi (by omega))
      show qs_cnt b m + _ = _
      rw [h1, hz m (by omega) (by omega), if_neg (by decide), Nat.add_zero]
theorem qs_cnt_s {b : Nat → Bool} {m : Nat} : qs_cnt b (m + 1) = qs_cnt b m + (if b m = true then 1 else 0) := rfl
theorem qs_cnt_t {b : Nat → Bool} {m : Nat} (h : b m = true) : qs_cnt b (m + 1) = qs_cnt b m + 1 := by rw [qs_cnt_s, if_pos h]
theorem qs_cnt_f {b : Nat → Bool} {m : Nat} (h : ¬ b m = true) : qs_cnt b (m + 1) = qs_cnt b m := by rw [qs_cnt_s, if_neg h, Nat.add_zero]
def qs_sum (f : Nat → Nat) : Nat → Nat
  | 0 => 0
  | m + 1 => qs_sum f m + f m
theorem qs_sum_s {f : Nat → Nat} {m : Nat} : qs_sum f (m + 1) = qs_sum f m + f m := rfl
theorem qs_sum_ext {f g : Nat → Nat} : ∀ {m : Nat}, (∀ i, i < m → f i = g i) → qs_sum f m = qs_sum g m
  | 0, _ => rfl
  | m + 1, h => by rw [qs_sum_s, qs_sum_s, qs_sum_ext (fun i hi => h i (by omega)), h m (by omega)]
theorem qs_sum_dec {f g : Nat → Nat} {c : Nat} (hc : g c + 1 = f c) (h : ∀ i, i ≠ c → g i = f i) : ∀ {m : Nat}, c < m → qs_sum g m + 1 = qs_sum f m
  | 0, hm => absurd hm (by omega)
  | m + 1, hm => by
    rw [qs_sum_s, qs_sum_s]
    by_cases e : c = m
    · subst e
      rw [qs_sum_ext (f := g) (g := f) (fun i hi => h i (by omega))]
      omega
    · have h1 := qs_sum_dec hc h (m := m) (by omega)
      have h2 := h m (fun z => e z.symm)
      omega
theorem qs_sum_le {f : Nat → Nat} {b : Nat} : ∀ {m : Nat}, (∀ i, i < m → f i ≤ b) → qs_sum f m ≤ b * m
  | 0, _ => Nat.zero_le _
  | m + 1, h => by
    rw [qs_sum_s, Nat.mul_succ]
    have h1 := qs_sum_le (f := f) (b := b) (m := m) (fun i hi => h i (by omega))
    have h2 := h m (by omega)
    omega
theorem qs_sum_mem {f : Nat → Nat} {c : Nat} : ∀ {m : Nat}, c < m → f c ≤ qs_sum f m
  | 0, h => absurd h (by omega)
  | m + 1, h => by
    rw [qs_sum_s]
    by_cases e : c = m
    · subst e; omega
    · have := qs_sum_mem (f := f) (c := c) (m := m) (by omega)
      omega
theorem qs_sum_mono {f g : Nat → Nat} : ∀ {m : Nat}, (∀ i, i < m → g i ≤ f i) → qs_sum g m ≤ qs_sum f m
  | 0, _ => Nat.le_refl 0
  | m + 1, h => by
    rw [qs_sum_s, qs_sum_s]
    have h1 := qs_sum_mono (f := f) (g := g) (m := m) (fun i hi => h i (by omega))
    have h2 := h m (by omega)
    omega
theorem qs_sum_lt {f g : Nat → Nat} {c : Nat} : ∀ {m : Nat}, (∀ i, i < m → g i ≤ f i) → c < m → g c + 1 ≤ f c → qs_sum g m + 1 ≤ qs_sum f m
  | 0, _, hc, _ => absurd hc (by omega)
  | m + 1, h, hc, hl => by
    rw [qs_sum_s, qs_sum_s]
    by_cases e : c = m
    · subst e
      have h1 := qs_sum_mono (f := f) (g := g) (m := c) (fun i hi => h i (by omega))
      omega
    · have h1 := qs_sum_lt (f := f) (g := g) (m := m) (fun i hi => h i (by omega)) (by omega) hl
      have h2 := h m (by omega)
      omega
theorem qs_sum_add {f g e : Nat → Nat} : ∀ {m : Nat}, (∀ i, i < m → e i = f i + g i) → qs_sum e m = qs_sum f m + qs_sum g m
  | 0, _ => rfl
  | m + 1, h => by
    rw [qs_sum_s, qs_sum_s, qs_sum_s, qs_sum_add (fun i hi => h i (by omega)), h m (by omega)]
    omega
theorem qs_sum_z {f : Nat → Nat} {a : Nat} : ∀ {m : Nat}, a ≤ m → (∀ i, a ≤ i → i < m → f i = 0) → qs_sum f m = qs_sum f a
  | 0, h, _ => by
    have : a = 0 := by omega
    rw [this]
  | m + 1, h, hz => by
    by_cases e : a = m + 1
    · rw [e]
    · have h1 := qs_sum_z (f := f) (a := a) (m := m) (by omega) (fun i hi hm => hz i hi (by omega))
      rw [qs_sum_s, h1, hz m (by omega) (by omega), Nat.add_zero]
theorem qs_cnt_sum {b : Nat → Bool} : ∀ {m : Nat}, qs_cnt b m = qs_sum (fun i => if b i = true then 1 else 0) m
  | 0 => rfl
  | m + 1 => by rw [qs_cnt_s, qs_sum_s, qs_cnt_sum]
