section
theorem pk_us {f : Nat → Int32} {k : Nat} {x : Int32} : upd f k x k = x := if_pos rfl
theorem pk_un {f : Nat → Int32} {k j : Nat} {x : Int32} (h : j ≠ k) : upd f k x j = f j := if_neg h
theorem pk_sub {a b : Nat} (h : b ≤ a) : nI a - nI b = nI (a - b) := by
  obtain ⟨c, rfl⟩ : ∃ c, a = c + b := ⟨a - b, by omega⟩
  rw [← nI_add, Int32.add_sub_cancel, Nat.add_sub_cancel]
theorem pk_m1 (n : Nat) : nI (n + 1) + (-1) = nI n := by
  rw [← nI_1, Int32.add_assoc, show (1 : Int32) + (-1) = 0 from rfl, Int32.add_zero]
theorem pk_mul (a b : Nat) : nI a * nI b = nI (a * b) := (Int32.ofNat_mul a b).symm
theorem pk_div {a d : Nat} (ha : a < 2 ^ 31) (h0 : 0 < d) (hd : d < 2 ^ 31) : nI a / nI d = nI (a / d) := by
  apply Int32.toInt_inj.mp
  rw [lg_idiv_nonneg (by rw [nI_toInt ha]; omega) (by rw [nI_toInt hd]; omega), nI_toInt ha, nI_toInt hd, nI_toInt (Nat.lt_of_le_of_lt (Nat.div_le_self a d) ha)]
  first | rfl | exact (Int.natCast_ediv _ _).symm
theorem pk_rem {a d : Nat} (ha : a < 2 ^ 31) (h0 : 0 < d) (hd : d < 2 ^ 31) : nI a - nI a / nI d * nI d = nI (a % d) := by
  rw [pk_div ha h0 hd, pk_mul, pk_sub (Nat.div_mul_le_self a d)]
  exact congrArg nI (by have := Nat.div_add_mod' a d; omega)
theorem pk_sub_toInt {a b : Nat} (ha : a < 2 ^ 30) (hb : b < 2 ^ 30) : (nI a - nI b).toInt = (a : Int) - b := by
  rw [Int32.toInt_sub, nI_toInt (by omega), nI_toInt (by omega)]
  exact Int.bmod_eq_of_le (by omega) (by omega)
theorem pk_sneg {a b : Nat} (hb : b < 2 ^ 30) (h : a < b) : nI a - nI b < 0 := by
  rw [Int32.lt_iff_toInt_lt, pk_sub_toInt (by omega) hb, show (0 : Int32).toInt = 0 from by decide]
  omega
theorem pk_ix (x : Int32) {n : Nat} (hn : n < 2 ^ 31) : x < 0 ∨ nI n ≤ x ∨ ∃ j : Nat, j < n ∧ x = nI j := by
  by_cases h : x < 0
  · exact Or.inl h
  · obtain ⟨j, hj, rfl⟩ := nI_of h
    by_cases h2 : j < n
    · exact Or.inr (Or.inr ⟨j, h2, rfl⟩)
    · exact Or.inr (Or.inl (nI_le (by omega) hj))
theorem pk_le {x y : Int32} {A B : Prop} (a b : Nat) (f : a ≤ b → A) (g : b < a → B) (hx : x = nI a := by rfl) (hy : y = nI b := by rfl) (ha : a < 2 ^ 31 := by omega) (hb : b < 2 ^ 31 := by omega) : (x ≤ y → A) ∧ (¬ x ≤ y → B) := by
  subst hx hy
  rw [nI_leI ha hb]
  exact ⟨f, fun z => g (by omega)⟩
theorem pk_lt {x y : Int32} {A B : Prop} (a b : Nat) (f : a < b → A) (g : b ≤ a → B) (hx : x = nI a := by rfl) (hy : y = nI b := by rfl) (ha : a < 2 ^ 31 := by omega) (hb : b < 2 ^ 31 := by omega) : (x < y → A) ∧ (¬ x < y → B) := by
  subst hx hy
  rw [nI_ltI ha hb]
  exact ⟨f, fun z => g (by omega)⟩
theorem pk_eq {x y : Int32} {A B : Prop} (a b : Nat) (f : a = b → A) (g : a ≠ b → B) (hx : x = nI a := by rfl) (hy : y = nI b := by rfl) (ha : a < 2 ^ 31 := by omega) (hb : b < 2 ^ 31 := by omega) : (x = y → A) ∧ (¬ x = y → B) := by
  subst hx hy
  rw [nI_eq ha hb]
  exact ⟨f, g⟩
theorem pk_in {x : Int32} (n N : Nat) (h : n < N) (hx : x = nI n := by rfl) (hN : N < 2 ^ 31 := by omega) : vp_in x N := by
  subst hx
  exact vp_in_nI h hN
theorem pk_cl {x : Int32} (n : Nat) (hx : x = nI n := by rfl) (h : n < 2 ^ 31 := by omega) : x.toNatClampNeg = n := by
  subst hx
  exact nI_clamp h
theorem pk_loop {σ : Type} (W : Nat → Nat → σ → Prop) (I : Nat → σ → Prop) (e i0 : Nat) (s : σ) (hi : i0 ≤ e) (h0 : I i0 s) (hx : ∀ n s, I e s → W (n + 1) e s)
    (hs : ∀ n i s, i < e → I i s → (∀ s', I (i + 1) s' → W n (i + 1) s') → W (n + 1) i s) : ∃ n, W n i0 s :=
  ⟨e + 1, loop_i W I e hx hs (e + 1) i0 s hi (by omega) h0⟩
theorem pk_loopD {σ : Type} (W : Nat → Nat → σ → Prop) (I : Nat → σ → Prop) (hx : ∀ n s, I 0 s → W (n + 1) 0 s)
    (hs : ∀ n i s, I (i + 1) s → (∀ s', I i s' → W n i s') → W (n + 1) (i + 1) s) : ∀ (e : Nat) (s : σ), I e s → W (e + 1) e s := by
  intro e
  induction e with
  | zero => exact fun s h => hx 0 s h
  | succ e ih => exact fun s h => hs (e + 1) e s h (fun s' h' => ih s' h')
theorem pk_least (P : Nat → Prop) (h : ∃ k, P k) : ∃ k, P k ∧ ∀ j, j < k → ¬ P j := by
  obtain ⟨k, hk⟩ := h
  induction k using Nat.strongRecOn with
  | ind k ih =>
    by_cases e : ∃ j, j < k ∧ P j
    · obtain ⟨j, hj, pj⟩ := e
      exact ih j hj pj
    · exact ⟨k, hk, fun j hj pj => e ⟨j, hj, pj⟩⟩
theorem ek_if {c d A B : Prop} (e : c ↔ d) (f : d → A) (g : ¬ d → B) : (c → A) ∧ (¬ c → B) :=
  ⟨fun z => f (e.mp z), fun z => g (fun y => z (e.mpr y))⟩
theorem ek_v {α : Sort _} {P : α → Prop} {a b : α} (e : a = b) (h : P b) : P a := e ▸ h
def bt (x : Int32) (i : Nat) : Bool := x.toBitVec.getLsbD i
theorem b_ext {x y : Int32} (h : ∀ i, i < 32 → bt x i = bt y i) : x = y := Int32.toBitVec_inj.mp (BitVec.eq_of_getLsbD_eq (fun i hi => h i hi))
theorem b_or (x y : Int32) (i : Nat) : bt (x ||| y) i = (bt x i || bt y i) := by unfold bt; rw [Int32.toBitVec_or, BitVec.getLsbD_or]
theorem b_and (x y : Int32) (i : Nat) : bt (x &&& y) i = (bt x i && bt y i) := by unfold bt; rw [Int32.toBitVec_and, BitVec.getLsbD_and]
theorem b_xor (x y : Int32) (i : Nat) : bt (x ^^^ y) i = (bt x i ^^ bt y i) := by unfold bt; rw [Int32.toBitVec_xor, BitVec.getLsbD_xor]
theorem b_big {x : Int32} {i : Nat} (h : 32 ≤ i) : bt x i = false := BitVec.getLsbD_of_ge _ _ h
theorem b_255 (i : Nat) : bt 255 i = decide (i < 8) := by
  rcases Nat.lt_or_ge i 32 with h | h
  · exact (by decide +kernel : ∀ i, i < 32 → bt 255 i = decide (i < 8)) i h
  · rw [b_big h, decide_eq_false (by omega)]
theorem b_65535 (i : Nat) : bt 65535 i = decide (i < 16) := by
  rcases Nat.lt_or_ge i 32 with h | h
  · exact (by decide +kernel : ∀ i, i < 32 → bt 65535 i = decide (i < 16)) i h
  · rw [b_big h, decide_eq_false (by omega)]
theorem b_m1 : ∀ i, i < 32 → bt (-1) i = true := by decide +kernel
theorem b_0 (i : Nat) : bt 0 i = false := BitVec.getLsbD_zero
theorem s_l : ∀ n, n < 32 → ((nI n &&& 31).toBitVec.smod 32).toNat = n := by decide +kernel
theorem s_u : ∀ n, n < 32 → (((nI n).toUInt32 &&& Int32.toUInt32 31).toBitVec % 32).toNat = n := by decide +kernel
theorem b_shl (n : Nat) (hn : n < 32) (x : Int32) {i : Nat} (hi : i < 32) : bt (x <<< (nI n &&& 31)) i = (decide (n ≤ i) && bt x (i - n)) := by
  unfold bt
  rw [Int32.toBitVec_shiftLeft]
  show (x.toBitVec <<< ((nI n &&& 31).toBitVec.smod 32).toNat).getLsbD i = _
  rw [s_l n hn, BitVec.getLsbD_shiftLeft]
  rcases Nat.lt_or_ge i n with h | h
  · simp [h, Nat.not_le.mpr h]
  · simp [hi, h, Nat.not_lt.mpr h]
theorem b_ushr (n : Nat) (hn : n < 32) (x : Int32) (i : Nat) : bt ((x.toUInt32 >>> ((nI n).toUInt32 &&& Int32.toUInt32 31)).toInt32) i = bt x (n + i) := by
  show (x.toUInt32 >>> ((nI n).toUInt32 &&& Int32.toUInt32 31)).toBitVec.getLsbD i = x.toUInt32.toBitVec.getLsbD (n + i)
  rw [UInt32.toBitVec_shiftRight]
  show (x.toUInt32.toBitVec >>> (((nI n).toUInt32 &&& Int32.toUInt32 31).toBitVec % 32).toNat).getLsbD i = _
  rw [s_u n hn, BitVec.getLsbD_ushiftRight]
theorem b_sshr (n : Nat) (hn : n < 32) (x : Int32) {i : Nat} (hi : i < 32) : bt (x >>> (nI n &&& 31)) i = if n + i < 32 then bt x (n + i) else bt x 31 := by
  unfold bt
  rw [Int32.toBitVec_shiftRight]
  show (x.toBitVec.sshiftRight ((nI n &&& 31).toBitVec.smod 32).toNat).getLsbD i = _
  rw [s_l n hn, BitVec.getLsbD_sshiftRight, BitVec.msb_eq_getLsbD_last]
  simp [hi]
theorem b_shl8 (x : Int32) {i : Nat} (hi : i < 32) : bt (x <<< ((8 : Int32) &&& 31)) i = (decide (8 ≤ i) && bt x (i - 8)) := b_shl 8 (by omega) x hi
theorem b_shl16 (x : Int32) {i : Nat} (hi : i < 32) : bt (x <<< ((16 : Int32) &&& 31)) i = (decide (16 ≤ i) && bt x (i - 16)) := b_shl 16 (by omega) x hi
theorem b_shl24 (x : Int32) {i : Nat} (hi : i < 32) : bt (x <<< ((24 : Int32) &&& 31)) i = (decide (24 ≤ i) && bt x (i - 24)) := b_shl 24 (by omega) x hi
theorem b_sshr8 (x : Int32) {i : Nat} (hi : i < 32) : bt (x >>> ((8 : Int32) &&& 31)) i = if 8 + i < 32 then bt x (8 + i) else bt x 31 := b_sshr 8 (by omega) x hi
end
section
def qs_w (A : Nat → Nat) (k : Nat) (x : Nat) : Nat → Nat := fun j => if j = k then x else A j
def qs_sw (A : Nat → Nat) (p q : Nat) : Nat → Nat := qs_w (qs_w A p (A q)) q (A p)
def qs_St (A : Nat → Nat) (n : Nat) (P : Nat → Prop) : Prop :=
  (∀ i, i < n → P (A i)) ∧ (∀ e, P e → ∃ i, i < n ∧ A i = e) ∧ (∀ i j, i < j → j < n → A i ≠ A j)
theorem qs_ws (A : Nat → Nat) (k : Nat) (x : Nat) : qs_w A k x k = x := by unfold qs_w; rw [if_pos rfl]
theorem qs_wn {A : Nat → Nat} {k j : Nat} {x : Nat} (h : j ≠ k) : qs_w A k x j = A j := by unfold qs_w; rw [if_neg h]
theorem qs_swl (A : Nat → Nat) (p q : Nat) : qs_sw A p q p = A q := by
  unfold qs_sw
  by_cases h : p = q
  · subst h; rw [qs_ws]
  · rw [qs_wn h, qs_ws]
theorem qs_swr (A : Nat → Nat) (p q : Nat) : qs_sw A p q q = A p := by unfold qs_sw; rw [qs_ws]
theorem qs_swn {A : Nat → Nat} {p q j : Nat} (hp : j ≠ p) (hq : j ≠ q) : qs_sw A p q j = A j := by unfold qs_sw; rw [qs_wn hq, qs_wn hp]
-- a hole that moves is a swap of the array with the hole filled
theorem qs_hole {A : Nat → Nat} {p q : Nat} {e : Nat} (h : p ≠ q) : qs_w (qs_w A p (A q)) q e = qs_sw (qs_w A p e) p q := by
  funext j
  by_cases hq : j = q
  · subst hq; rw [qs_ws, qs_swr, qs_ws]
  · by_cases hp : j = p
    · subst hp; rw [qs_wn hq, qs_ws, qs_swl, qs_wn (Ne.symm h)]
    · rw [qs_wn hq, qs_wn hp, qs_swn hp hq, qs_wn hp]
theorem qs_dis {A : Nat → Nat} {n : Nat} {P : Nat → Prop} (h : qs_St A n P) {i j : Nat} (hi : i < n) (hj : j < n) (e : A i = A j) : i = j := by
  rcases Nat.lt_trichotomy i j with l | l | l
  · exact absurd e (h.2.2 i j l hj)
  · exact l
  · exact absurd e.symm (h.2.2 j i l hi)
theorem qs_app {A : Nat → Nat} {n : Nat} {P : Nat → Prop} {e : Nat} (h : qs_St A n P) (he : ¬ P e) : qs_St (qs_w A n e) (n + 1) (fun x => P x ∨ x = e) := by
  refine ⟨fun i hi => ?_, fun x hx => ?_, fun i j hij hj => ?_⟩
  · by_cases c : i = n
    · subst c; rw [qs_ws]; exact Or.inr rfl
    · rw [qs_wn c]; exact Or.inl (h.1 i (by omega))
  · rcases hx with hx | hx
    · obtain ⟨i, hi, ei⟩ := h.2.1 x hx
      exact ⟨i, by omega, by rw [qs_wn (by omega)]; exact ei⟩
    · exact ⟨n, by omega, by rw [qs_ws, hx]⟩
  · by_cases c : j = n
    · subst c
      rw [qs_ws, qs_wn (by omega)]
      intro z
      exact he (z ▸ h.1 i hij)
    · rw [qs_wn c, qs_wn (by omega)]
      exact h.2.2 i j hij (by omega)
-- the last slot goes to the place p of the one that is taken away
theorem qs_rm {A : Nat → Nat} {n p : Nat} {P : Nat → Prop} (h : qs_St A (n + 1) P) (hp : p ≤ n) : qs_St (qs_w A p (A n)) n (fun x => P x ∧ x ≠ A p) := by
  refine ⟨fun i hi => ?_, fun x hx => ?_, fun i j hij hj => ?_⟩
  · by_cases c : i = p
    · subst c
      rw [qs_ws]
      exact ⟨h.1 n (by omega), fun z => absurd (qs_dis h (by omega) (by omega) z) (by omega)⟩
    · rw [qs_wn c]
      exact ⟨h.1 i (by omega), fun z => c (qs_dis h (by omega) (by omega) z)⟩
  · obtain ⟨i, hi, ei⟩ := h.2.1 x hx.1
    have hne : i ≠ p := fun z => hx.2 (by rw [← ei, z])
    by_cases c : i = n
    · exact ⟨p, by omega, by rw [qs_ws, ← ei, c]⟩
    · exact ⟨i, by omega, by rw [qs_wn hne]; exact ei⟩
  · intro z
    by_cases ci : i = p
    · rw [ci, qs_ws, qs_wn (by omega)] at z
      exact absurd (qs_dis h (by omega) (by omega) z) (by omega)
    · by_cases cj : j = p
      · rw [cj, qs_ws, qs_wn (by omega)] at z
        exact absurd (qs_dis h (by omega) (by omega) z) (by omega)
      · rw [qs_wn ci, qs_wn cj] at z
        exact absurd (qs_dis h (by omega) (by omega) z) (by omega)
def qs_tr (p q i : Nat) : Nat := if i = p then q else if i = q then p else i
theorem qs_sw_tr (A : Nat → Nat) (p q i : Nat) : qs_sw A p q i = A (qs_tr p q i) := by
  unfold qs_tr
  by_cases hp : i = p
  · rw [if_pos hp, hp, qs_swl]
  · rw [if_neg hp]
    by_cases hq : i = q
    · rw [if_pos hq, hq, qs_swr]
    · rw [if_neg hq, qs_swn hp hq]
theorem qs_tr_lt {p q i n : Nat} (hp : p < n) (hq : q < n) (hi : i < n) : qs_tr p q i < n := by
  unfold qs_tr; split
  · exact hq
  · split <;> assumption
theorem qs_tr_tr (p q i : Nat) : qs_tr p q (qs_tr p q i) = i := by
  unfold qs_tr
  by_cases hp : i = p
  · subst hp
    rw [if_pos rfl]
    by_cases h : q = i
    · rw [if_pos h, h]
    · rw [if_neg h, if_pos rfl]
  · rw [if_neg hp]
    by_cases hq : i = q
    · rw [if_pos hq, if_pos rfl, hq]
    · rw [if_neg hq, if_neg hp, if_neg hq]
theorem qs_swap {A : Nat → Nat} {n p q : Nat} {P : Nat → Prop} (h : qs_St A n P) (hp : p < n) (hq : q < n) : qs_St (qs_sw A p q) n P := by
  refine ⟨fun i hi => ?_, fun x hx => ?_, fun i j hij hj => ?_⟩
  · rw [qs_sw_tr]; exact h.1 _ (qs_tr_lt hp hq hi)
  · obtain ⟨i, hi, ei⟩ := h.2.1 x hx
    exact ⟨qs_tr p q i, qs_tr_lt hp hq hi, by rw [qs_sw_tr, qs_tr_tr]; exact ei⟩
  · rw [qs_sw_tr, qs_sw_tr]
    intro z
    have := qs_dis h (qs_tr_lt hp hq (Nat.lt_trans hij hj)) (qs_tr_lt hp hq hj) z
    have e : qs_tr p q (qs_tr p q i) = qs_tr p q (qs_tr p q j) := by rw [this]
    rw [qs_tr_tr, qs_tr_tr] at e
    omega
-- engine 1: the list falls; the slot pl is out of order while the new one moves down
def qs_fall (A : Nat → Nat) (n : Nat) : Prop := ∀ i j, i < j → j < n → A j < A i
def qs_fallx (A : Nat → Nat) (n pl : Nat) : Prop := (∀ i j, i < j → j < n → i ≠ pl → j ≠ pl → A j < A i) ∧ ∀ j, pl < j → j < n → A j < A pl
theorem qs_fall0 {A : Nat → Nat} {n : Nat} {e : Nat} (h : qs_fall A n) : qs_fallx (qs_w A n e) (n + 1) n := by
  refine ⟨fun i j hij hj hi hn => ?_, fun j hj hn => by omega⟩
  rw [qs_wn hi, qs_wn hn]
  exact h i j hij (by omega)
theorem qs_falls {A : Nat → Nat} {n pl : Nat} (h : qs_fallx A n (pl + 1)) (hpl : pl + 1 < n) (hl : A pl < A (pl + 1)) : qs_fallx (qs_sw A (pl + 1) pl) n pl := by
  refine ⟨fun i j hij hj hi hn => ?_, fun j hj hn => ?_⟩
  · by_cases ci : i = pl + 1
    · subst ci
      rw [qs_swl, qs_swn (by omega) (by omega)]
      exact h.1 pl j (by omega) hj (by omega) (by omega)
    · by_cases cj : j = pl + 1
      · subst cj
        rw [qs_swl, qs_swn ci hi]
        exact h.1 i pl (by omega) (by omega) ci (by omega)
      · rw [qs_swn ci hi, qs_swn cj hn]
        exact h.1 i j hij hj ci cj
  · rw [qs_swr]
    by_cases cj : j = pl + 1
    · subst cj; rw [qs_swl]; exact hl
    · rw [qs_swn cj (by omega)]; exact h.2 j (by omega) hn
theorem qs_falle {A : Nat → Nat} {n pl : Nat} (h : qs_fallx A n pl) (hl : ∀ i, i + 1 = pl → A pl < A i) : qs_fall A n := by
  intro i j hij hj
  by_cases ci : i = pl
  · subst ci; exact h.2 j hij hj
  · by_cases cj : j = pl
    · subst cj
      by_cases c : i + 1 = j
      · exact hl i c
      · have h1 := hl (j - 1) (by omega)
        have h2 := h.1 i (j - 1) (by omega) (by omega) ci (by omega)
        omega
    · exact h.1 i j hij hj ci cj
-- engine 2: the heap
def qs_hp (A : Nat → Nat) (n : Nat) : Prop := ∀ i, 0 < i → i < n → A ((i - 1) / 2) ≤ A i
def qs_up (A : Nat → Nat) (n pl : Nat) : Prop :=
  (∀ i, 0 < i → i < n → i ≠ pl → A ((i - 1) / 2) ≤ A i) ∧ ∀ i, 0 < i → i < n → (i - 1) / 2 = pl → 0 < pl → A ((pl - 1) / 2) ≤ A i
def qs_dn (A : Nat → Nat) (n pl : Nat) : Prop :=
  (∀ i, 0 < i → i < n → (i - 1) / 2 ≠ pl → A ((i - 1) / 2) ≤ A i) ∧ ∀ i, 0 < i → i < n → (i - 1) / 2 = pl → 0 < pl → A ((pl - 1) / 2) ≤ A i
theorem qs_top {A : Nat → Nat} {n : Nat} (h : qs_hp A n) : ∀ i, i < n → A 0 ≤ A i := by
  intro i
  induction i using Nat.strongRecOn with
  | ind i ih =>
    intro hi
    by_cases c : i = 0
    · subst c; exact Nat.le_refl _
    · have h1 := ih ((i - 1) / 2) (by omega) (by omega)
      have h2 := h i (by omega) hi
      omega
theorem qs_up0 {A : Nat → Nat} {n : Nat} {e : Nat} (h : qs_hp A n) : qs_up (qs_w A n e) (n + 1) n := by
  refine ⟨fun i h0 hi hn => ?_, fun i h0 hi hq hp => by omega⟩
  rw [qs_wn hn, qs_wn (by omega)]
  exact h i h0 (by omega)
theorem qs_ups {A : Nat → Nat} {n pl : Nat} (h : qs_up A n pl) (h0 : 0 < pl) (hn : pl < n) (hl : A pl ≤ A ((pl - 1) / 2)) : qs_up (qs_sw A pl ((pl - 1) / 2)) n ((pl - 1) / 2) := by
  have hne : (pl - 1) / 2 ≠ pl := by omega
  refine ⟨fun i i0 hi hp => ?_, fun i i0 hi hq hp => ?_⟩
  · by_cases c : i = pl
    · subst c; rw [qs_swr, qs_swl]; exact hl
    · rw [qs_swn (j := i) c hp]
      by_cases d : (i - 1) / 2 = pl
      · rw [d, qs_swl]; exact h.2 i i0 hi d h0
      · by_cases f : (i - 1) / 2 = (pl - 1) / 2
        · rw [f, qs_swr]
          have := h.1 i i0 hi c
          rw [f] at this
          omega
        · rw [qs_swn d f]; exact h.1 i i0 hi c
  · have hg : ((pl - 1) / 2 - 1) / 2 ≠ pl := by omega
    have hg' : ((pl - 1) / 2 - 1) / 2 ≠ (pl - 1) / 2 := by omega
    have hb := h.1 ((pl - 1) / 2) hp (by omega) hne
    rw [qs_swn hg hg']
    by_cases c : i = pl
    · subst c; rw [qs_swl]; exact hb
    · rw [qs_swn (j := i) c (by omega)]
      have := h.1 i i0 hi c
      rw [hq] at this
      omega
theorem qs_upe {A : Nat → Nat} {n pl : Nat} (h : qs_up A n pl) (hl : 0 < pl → A ((pl - 1) / 2) ≤ A pl) : qs_hp A n := by
  intro i i0 hi
  by_cases c : i = pl
  · subst c; exact hl i0
  · exact h.1 i i0 hi c
theorem qs_dn0 {A : Nat → Nat} {n : Nat} {e : Nat} (h : qs_hp A (n + 1)) : qs_dn (qs_w A 0 e) n 0 := by
  refine ⟨fun i i0 hi hq => ?_, fun i i0 hi hq hp => by omega⟩
  rw [qs_wn hq, qs_wn (by omega)]
  exact h i i0 (by omega)
theorem qs_dns {A : Nat → Nat} {n pl ch : Nat} (h : qs_dn A n pl) (hc0 : 0 < ch) (hc : ch < n) (hp : (ch - 1) / 2 = pl) (hl : A ch ≤ A pl) (hs : ∀ i, 0 < i → i < n → (i - 1) / 2 = pl → A ch ≤ A i) : qs_dn (qs_sw A pl ch) n ch := by
  have hne : pl ≠ ch := by omega
  refine ⟨fun i i0 hi hq => ?_, fun i i0 hi hq h0 => ?_⟩
  · by_cases c : i = ch
    · subst c; rw [hp, qs_swl, qs_swr]; exact hl
    · by_cases d : i = pl
      · subst d
        rw [qs_swl, qs_swn (by omega) (by omega)]
        exact h.2 ch hc0 hc hp i0
      · rw [qs_swn (j := i) d c]
        by_cases f : (i - 1) / 2 = pl
        · rw [f, qs_swl]; exact hs i i0 hi f
        · rw [qs_swn f hq]; exact h.1 i i0 hi f
  · rw [hp, qs_swl, qs_swn (j := i) (by omega) (by omega)]
    have := h.1 i i0 hi (by omega)
    rw [hq] at this
    exact this
theorem qs_dne {A : Nat → Nat} {n pl : Nat} (h : qs_dn A n pl) (hs : ∀ i, 0 < i → i < n → (i - 1) / 2 = pl → A pl ≤ A i) : qs_hp A n := by
  intro i i0 hi
  by_cases c : (i - 1) / 2 = pl
  · rw [c]; exact hs i i0 hi c
  · exact h.1 i i0 hi c
-- how many of the customers below m have something (a count by a Bool)
def qs_cnt (b : Nat → Bool) : Nat → Nat
  | 0 => 0
  | m + 1 => qs_cnt b m + (if b m = true then 1 else 0)
theorem qs_cnt_le (b : Nat → Bool) : ∀ m, qs_cnt b m ≤ m
  | 0 => Nat.le_refl 0
  | m + 1 => by
    have := qs_cnt_le b m
    show qs_cnt b m + _ ≤ m + 1
    split <;> omega
theorem qs_cnt_ext {b d : Nat → Bool} : ∀ {m : Nat}, (∀ i, i < m → b i = d i) → qs_cnt b m = qs_cnt d m
  | 0, _ => rfl
  | m + 1, h => by
    show qs_cnt b m + _ = qs_cnt d m + _
    rw [qs_cnt_ext (fun i hi => h i (by omega)), h m (by omega)]
theorem qs_cnt_set {b d : Nat → Bool} {c : Nat} (hb : b c = false) (hd : d c = true) (h : ∀ i, i ≠ c → d i = b i) : ∀ {m : Nat}, c < m → qs_cnt d m = qs_cnt b m + 1
  | 0, hc => absurd hc (by omega)
  | m + 1, hc => by
    show qs_cnt d m + _ = qs_cnt b m + _ + 1
    by_cases e : c = m
    · subst e
      rw [qs_cnt_ext (b := d) (d := b) (fun i hi => h i (by omega)), hb, hd]
      rfl
    · rw [qs_cnt_set hb hd h (m := m) (by omega), h m (fun z => e z.symm)]
      omega
theorem qs_cnt_0 {b : Nat → Bool} : ∀ {m : Nat}, qs_cnt b m = 0 → ∀ c, c < m → b c = false
  | 0, _, c, hc => absurd hc (by omega)
  | m + 1, h, c, hc => by
    have h' : qs_cnt b m + (if b m = true then 1 else 0) = 0 := h
    by_cases e : c = m
    · subst e
      by_cases hb : b c = true
      · rw [if_pos hb] at h'; omega
      · exact Bool.eq_false_iff.mpr hb
    · exact qs_cnt_0 (m := m) (by omega) c (by omega)
theorem qs_cnt_pos {b : Nat → Bool} {m c : Nat} (hc : c < m) (hb : b c = true) : 0 < qs_cnt b m := by
  rcases Nat.eq_zero_or_pos (qs_cnt b m) with h | h
  · have := qs_cnt_0 h c hc
    rw [hb] at this
    exact absurd this (by decide)
  · exact h
theorem qs_cnt_add {b d e : Nat → Bool} : ∀ {m : Nat}, (∀ i, i < m → (if e i = true then 1 else 0) = (if b i = true then 1 else 0) + (if d i = true then 1 else 0)) → qs_cnt e m = qs_cnt b m + qs_cnt d m
  | 0, _ => rfl
  | m + 1, h => by
    show qs_cnt e m + _ = (qs_cnt b m + _) + (qs_cnt d m + _)
    rw [qs_cnt_add (fun i hi => h i (by omega)), h m (by omega)]
    omega
theorem qs_cnt_mono {b d : Nat → Bool} : ∀ {m : Nat}, (∀ i, i < m → b i = true → d i = true) → qs_cnt b m ≤ qs_cnt d m
  | 0, _ => Nat.le_refl 0
  | m + 1, h => by
    show qs_cnt b m + _ ≤ qs_cnt d m + _
    have h1 := qs_cnt_mono (b := b) (d := d) (m := m) (fun i hi => h i (by omega))
    have h2 := h m (by omega)
    by_cases hb : b m = true
    · rw [if_pos hb, if_pos (h2 hb)]; omega
    · rw [if_neg hb]; split <;> omega
theorem qs_cnt_lt {b d : Nat → Bool} {c : Nat} : ∀ {m : Nat}, (∀ i, i < m → b i = true → d i = true) → c < m → b c = false → d c = true → qs_cnt b m + 1 ≤ qs_cnt d m
  | 0, _, hc, _, _ => absurd hc (by omega)
  | m + 1, h, hc, hb, hd => by
    show qs_cnt b m + _ + 1 ≤ qs_cnt d m + _
    by_cases e : c = m
    · subst e
      have h1 := qs_cnt_mono (b := b) (d := d) (m := c) (fun i hi => h i (by omega))
      have hb' : ¬ b c = true := by rw [hb]; decide
      rw [if_neg hb', if_pos hd]; omega
    · have h1 := qs_cnt_lt (b := b) (d := d) (m := m) (fun i hi => h i (by omega)) (by omega) hb hd
      have h2 := h m (by omega)
      by_cases hb2 : b m = true
      · rw [if_pos hb2, if_pos (h2 hb2)]; omega
      · rw [if_neg hb2]; split <;> omega
-- nothing is counted from a to m
theorem qs_cnt_z {b : Nat → Bool} {a : Nat} : ∀ {m : Nat}, a ≤ m → (∀ i, a ≤ i → i < m → b i = false) → qs_cnt b m = qs_cnt b a
  | 0, h, _ => by
    have : a = 0 := by omega
    rw [this]
  | m + 1, h, hz => by
    by_cases e : a = m + 1
    · rw [e]
    · have h1 := qs_cnt_z (b := b) (a := a) (m := m) (by omega) (fun i hi hm => hz i hi (by omega))
      show qs_cnt b m + _ = _
      rw [h1, hz m (by omega) (by omega), if_neg (by decide), Nat.add_zero]
theorem qs_cnt_s {b : Nat → Bool} {m : Nat} : qs_cnt b (m + 1) = qs_cnt b m + (if b m = true then 1 else 0) := rfl
theorem qs_cnt_t {b : Nat → Bool} {m : Nat} (h : b m = true) : qs_cnt b (m + 1) = qs_cnt b m + 1 := by rw [qs_cnt_s, if_pos h]
theorem qs_cnt_f {b : Nat → Bool} {m : Nat} (h : ¬ b m = true) : qs_cnt b (m + 1) = qs_cnt b m := by rw [qs_cnt_s, if_neg h, Nat.add_zero]
def qs_sum (f : Nat → Nat) : Nat → Nat
  | 0 => 0
  | m + 1 => qs_sum f m + f m
theorem qs_sum_s {f : Nat → Nat} {m : Nat} : qs_sum f (m + 1) = qs_sum f m + f m := rfl
theorem qs_sum_ext {f g : Nat → Nat} : ∀ {m : Nat}, (∀ i, i < m → f i = g i) → qs_sum f m = qs_sum g m
  | 0, _ => rfl
  | m + 1, h => by rw [qs_sum_s, qs_sum_s, qs_sum_ext (fun i hi => h i (by omega)), h m (by omega)]
theorem qs_sum_dec {f g : Nat → Nat} {c : Nat} (hc : g c + 1 = f c) (h : ∀ i, i ≠ c → g i = f i) : ∀ {m : Nat}, c < m → qs_sum g m + 1 = qs_sum f m
  | 0, hm => absurd hm (by omega)
  | m + 1, hm => by
    rw [qs_sum_s, qs_sum_s]
    by_cases e : c = m
    · subst e
      rw [qs_sum_ext (f := g) (g := f) (fun i hi => h i (by omega))]
      omega
    · have h1 := qs_sum_dec hc h (m := m) (by omega)
      have h2 := h m (fun z => e z.symm)
      omega
theorem qs_sum_le {f : Nat → Nat} {b : Nat} : ∀ {m : Nat}, (∀ i, i < m → f i ≤ b) → qs_sum f m ≤ b * m
  | 0, _ => Nat.zero_le _
  | m + 1, h => by
    rw [qs_sum_s, Nat.mul_succ]
    have h1 := qs_sum_le (f := f) (b := b) (m := m) (fun i hi => h i (by omega))
    have h2 := h m (by omega)
    omega
theorem qs_sum_mem {f : Nat → Nat} {c : Nat} : ∀ {m : Nat}, c < m → f c ≤ qs_sum f m
  | 0, h => absurd h (by omega)
  | m + 1, h => by
    rw [qs_sum_s]
    by_cases e : c = m
    · subst e; omega
    · have := qs_sum_mem (f := f) (c := c) (m := m) (by omega)
      omega
theorem qs_sum_mono {f g : Nat → Nat} : ∀ {m : Nat}, (∀ i, i < m → g i ≤ f i) → qs_sum g m ≤ qs_sum f m
  | 0, _ => Nat.le_refl 0
  | m + 1, h => by
    rw [qs_sum_s, qs_sum_s]
    have h1 := qs_sum_mono (f := f) (g := g) (m := m) (fun i hi => h i (by omega))
    have h2 := h m (by omega)
    omega
theorem qs_sum_lt {f g : Nat → Nat} {c : Nat} : ∀ {m : Nat}, (∀ i, i < m → g i ≤ f i) → c < m → g c + 1 ≤ f c → qs_sum g m + 1 ≤ qs_sum f m
  | 0, _, hc, _ => absurd hc (by omega)
  | m + 1, h, hc, hl => by
    rw [qs_sum_s, qs_sum_s]
    by_cases e : c = m
    · subst e
      have h1 := qs_sum_mono (f := f) (g := g) (m := c) (fun i hi => h i (by omega))
      omega
    · have h1 := qs_sum_lt (f := f) (g := g) (m := m) (fun i hi => h i (by omega)) (by omega) hl
      have h2 := h m (by omega)
      omega
theorem qs_sum_add {f g e : Nat → Nat} : ∀ {m : Nat}, (∀ i, i < m → e i = f i + g i) → qs_sum e m = qs_sum f m + qs_sum g m
  | 0, _ => rfl
  | m + 1, h => by
    rw [qs_sum_s, qs_sum_s, qs_sum_s, qs_sum_add (fun i hi => h i (by omega)), h m (by omega)]
    omega
theorem qs_sum_z {f : Nat → Nat} {a : Nat} : ∀ {m : Nat}, a ≤ m → (∀ i, a ≤ i → i < m → f i = 0) → qs_sum f m = qs_sum f a
  | 0, h, _ => by
    have : a = 0 := by omega
    rw [this]
  | m + 1, h, hz => by
    by_cases e : a = m + 1
    · rw [e]
    · have h1 := qs_sum_z (f := f) (a := a) (m := m) (by omega) (fun i hi hm => hz i hi (by omega))
      rw [qs_sum_s, h1, hz m (by omega) (by omega), Nat.add_zero]
theorem qs_cnt_sum {b : Nat → Bool} : ∀ {m : Nat}, qs_cnt b m = qs_sum (fun i => if b i = true then 1 else 0) m
  | 0 => rfl
  | m + 1 => by rw [qs_cnt_s, qs_sum_s, qs_cnt_sum]
end
section
theorem qs_b1 : ∀ i, i < 32 → bt 1 i = decide (i = 0) := by decide +kernel
theorem qs_t1 (y : Int32) : y &&& 1 = 1 ↔ bt y 0 = true := by
  constructor
  · intro h
    have e := b_and y 1 0
    rw [h, qs_b1 0 (by omega)] at e
    cases hb : bt y 0
    · rw [hb] at e; exact absurd e (by decide)
    · rfl
  · intro h
    refine b_ext fun i hi => ?_
    rw [b_and, qs_b1 i hi]
    by_cases c : i = 0
    · subst c; rw [h]; rfl
    · rw [decide_eq_false c, Bool.and_false]
theorem qs_test {x : Int32} {k : Nat} (hk : k < 32) : (x >>> (nI k &&& 31)) &&& 1 = 1 ↔ bt x k = true := by
  rw [qs_t1, b_sshr k hk x (by omega : 0 < 32), Nat.add_zero, if_pos hk]
theorem qs_one {k i : Nat} (hk : k < 32) (hi : i < 32) : bt ((1 : Int32) <<< (nI k &&& 31)) i = decide (i = k) := by
  rw [b_shl k hk 1 hi]
  by_cases c : k ≤ i
  · rw [decide_eq_true c, Bool.true_and, qs_b1 (i - k) (by omega)]
    exact decide_eq_decide.mpr (by omega)
  · rw [decide_eq_false c, Bool.false_and, decide_eq_false (by omega)]
theorem qs_set {x : Int32} {k i : Nat} (hk : k < 32) (hi : i < 32) : bt (x ||| ((1 : Int32) <<< (nI k &&& 31))) i = true ↔ (bt x i = true ∨ i = k) := by
  rw [b_or, qs_one hk hi, Bool.or_eq_true, decide_eq_true_eq]
theorem qs_clr {x : Int32} {k i : Nat} (hk : k < 32) (hi : i < 32) : bt (x &&& (((1 : Int32) <<< (nI k &&& 31)) ^^^ (-1))) i = true ↔ (bt x i = true ∧ i ≠ k) := by
  rw [b_and, b_xor, qs_one hk hi, b_m1 i hi, Bool.xor_true, Bool.and_eq_true, Bool.not_eq_true', decide_eq_false_iff_not]
theorem qs_nz {x : Int32} {k : Nat} (h : bt x k = true) : ¬ x = 0 := by
  intro z
  rw [z, b_0] at h
  exact absurd h (by decide)
def qs_Ca (cal : Nat → Int32) (P : Nat → Prop) : Prop := ∀ t, t < 1541 → ∀ k, k < 32 → (bt (cal t) k = true ↔ P (t * 32 + k))
theorem qs_Ca0 {P : Nat → Prop} {cal : Nat → Int32} (h0 : ∀ t, t < 1541 → cal t = 0) (h : ∀ e, ¬ P e) : qs_Ca cal P := by
  intro t ht k _
  rw [h0 t ht, b_0]
  exact ⟨fun z => absurd z (by decide), fun z => absurd z (h _)⟩
theorem qs_Ca_add {P : Nat → Prop} {cal : Nat → Int32} {t k : Nat} (h : qs_Ca cal P) (hk : k < 32) : qs_Ca (upd cal t (cal t ||| ((1 : Int32) <<< (nI k &&& 31)))) (fun x => P x ∨ x = t * 32 + k) := by
  intro r hr j hj
  unfold upd
  by_cases c : r = t
  · subst c
    rw [if_pos rfl, qs_set hk hj, h r hr j hj]
    constructor
    · rintro (z | z)
      · exact Or.inl z
      · subst z; exact Or.inr rfl
    · rintro (z | z)
      · exact Or.inl z
      · exact Or.inr (by omega)
  · rw [if_neg c, h r hr j hj]
    constructor
    · exact Or.inl
    · rintro (z | z)
      · exact z
      · exact absurd z (by omega)
theorem qs_Ca_rm {P : Nat → Prop} {cal : Nat → Int32} {t k : Nat} (h : qs_Ca cal P) (hk : k < 32) : qs_Ca (upd cal t (cal t &&& (((1 : Int32) <<< (nI k &&& 31)) ^^^ (-1)))) (fun x => P x ∧ x ≠ t * 32 + k) := by
  intro r hr j hj
  unfold upd
  by_cases c : r = t
  · subst c
    rw [if_pos rfl, qs_clr hk hj, h r hr j hj]
    constructor
    · rintro ⟨z, y⟩
      exact ⟨z, by omega⟩
    · rintro ⟨z, y⟩
      exact ⟨z, fun w => y (by rw [w])⟩
  · rw [if_neg c, h r hr j hj]
    constructor
    · exact fun z => ⟨z, by omega⟩
    · exact fun z => z.1
end
section
-- the plan: number of customers, servers and rule by station, arrival and number of visits by customer, station and need by 4 * c + k
abbrev qp_T : Type := Nat × (Nat → Nat) × (Nat → Nat) × (Nat → Nat) × (Nat → Nat) × (Nat → Nat) × (Nat → Nat)
def qp_m (p : qp_T) : Nat := p.1
def qp_sv (p : qp_T) : Nat → Nat := p.2.1
def qp_ru (p : qp_T) : Nat → Nat := p.2.2.1
def qp_ar (p : qp_T) : Nat → Nat := p.2.2.2.1
def qp_vc (p : qp_T) : Nat → Nat := p.2.2.2.2.1
def qp_vs (p : qp_T) : Nat → Nat := p.2.2.2.2.2.1
def qp_vn (p : qp_T) : Nat → Nat := p.2.2.2.2.2.2
def qp_okc (p : qp_T) (c : Nat) : Prop := qp_ar p c ≤ 100 ∧ qp_vc p c ≤ 4 ∧ ∀ k, k < qp_vc p c → qp_vs p (4 * c + k) < 4 ∧ 1 ≤ qp_vn p (4 * c + k) ∧ qp_vn p (4 * c + k) ≤ 30
def qp_ok (p : qp_T) : Prop := qp_m p ≤ 12 ∧ (∀ s, s < 4 → 1 ≤ qp_sv p s ∧ qp_sv p s ≤ 3 ∧ qp_ru p s ≤ 2) ∧ (∀ c, c < qp_m p → qp_okc p c)
-- a state of the run: current visit, what it does (0 to arrive, 1 waits, 2 is served, 3 has left), joins, begins, leaves
abbrev qn_S : Type := (Nat → Nat) × (Nat → Nat) × (Nat → Nat) × (Nat → Nat) × (Nat → Nat)
def qn_cu (S : qn_S) : Nat → Nat := S.1
def qn_ph (S : qn_S) : Nat → Nat := S.2.1
def qn_J (S : qn_S) : Nat → Nat := S.2.2.1
def qn_B (S : qn_S) : Nat → Nat := S.2.2.2.1
def qn_L (S : qn_S) : Nat → Nat := S.2.2.2.2
def qn_u (f : Nat → Nat) (k x : Nat) : Nat → Nat := fun j => if j = k then x else f j
theorem qn_us {f : Nat → Nat} {k x : Nat} : qn_u f k x k = x := if_pos rfl
theorem qn_un {f : Nat → Nat} {k x j : Nat} (h : j ≠ k) : qn_u f k x j = f j := if_neg h
def qn_v (S : qn_S) (c : Nat) : Nat := 4 * c + qn_cu S c
def qn_en (p : qp_T) (S : qn_S) (c : Nat) : Nat := qn_B S (qn_v S c) + qp_vn p (qn_v S c)
def qn_nk (S : qn_S) (c : Nat) : Nat := if qn_ph S c = 2 then qn_cu S c + 1 else qn_cu S c
def qn_hs (S : qn_S) (c : Nat) : Bool := decide (qn_ph S c = 0 ∨ qn_ph S c = 2)
def qn_tm (p : qp_T) (S : qn_S) (c : Nat) : Nat := if qn_ph S c = 0 then qp_ar p c else qn_en p S c
def qn_mk (S : qn_S) (c : Nat) : Nat := if qn_ph S c = 0 then 16 + c else c
def qn_num (p : qp_T) (S : qn_S) (c : Nat) : Nat := qn_tm p S c * 32 + qn_mk S c
def qn_fi (p : qp_T) (t : Nat) (S : qn_S) (c : Nat) : Bool := decide (c < qp_m p ∧ qn_hs S c = true ∧ qn_tm p S c = t)
def qn_P (p : qp_T) (S : qn_S) : Nat → Prop := fun e => ∃ c, c < qp_m p ∧ qn_hs S c = true ∧ e = qn_num p S c
-- what happens to those of D at time t (ends of service and arrivals)
def qn_ev (p : qp_T) (t : Nat) (D : Nat → Bool) (S : qn_S) : qn_S :=
  (fun c => if D c = true then qn_nk S c else qn_cu S c,
   fun c => if D c = true then (if qn_nk S c = qp_vc p c then 3 else 1) else qn_ph S c,
   fun v => if D (v / 4) = true ∧ qn_nk S (v / 4) ≠ qp_vc p (v / 4) ∧ v % 4 = qn_nk S (v / 4) then t else qn_J S v,
   qn_B S,
   fun c => if D c = true ∧ qn_nk S c = qp_vc p c then t else qn_L S c)
def qn_wt (p : qp_T) (S : qn_S) (s c : Nat) : Bool := decide (qn_ph S c = 1 ∧ qp_vs p (qn_v S c) = s)
def qn_sg (p : qp_T) (S : qn_S) (s c : Nat) : Bool := decide (qn_ph S c = 2 ∧ qp_vs p (qn_v S c) = s)
-- c (the greater number) goes before b by rule r
def qn_gb (p : qp_T) (r : Nat) (S : qn_S) (c b : Nat) : Bool :=
  if r = 1 then decide (qn_J S (qn_v S b) ≤ qn_J S (qn_v S c))
  else if r = 0 ∨ qp_vn p (qn_v S c) = qp_vn p (qn_v S b) then decide (qn_J S (qn_v S c) < qn_J S (qn_v S b))
  else decide (qp_vn p (qn_v S c) < qp_vn p (qn_v S b))
def qn_pk (p : qp_T) (S : qn_S) (s : Nat) : Nat → Option Nat
  | 0 => none
  | c + 1 => match qn_pk p S s c with
    | none => if qn_wt p S s c = true then some c else none
    | some b => if qn_wt p S s c = true ∧ qn_gb p (qp_ru p s) S c b = true then some c else some b
def qn_beg (t : Nat) (S : qn_S) (c : Nat) : qn_S :=
  (qn_cu S, qn_u (qn_ph S) c 2, qn_J S, qn_u (qn_B S) (qn_v S c) t, qn_L S)
def qn_nsg (p : qp_T) (S : qn_S) (s : Nat) : Nat := qs_cnt (qn_sg p S s) (qp_m p)
def qn_fl (p : qp_T) (t s : Nat) : Nat → qn_S → qn_S
  | 0, S => S
  | n + 1, S => if qn_nsg p S s < qp_sv p s then
      match qn_pk p S s (qp_m p) with
      | none => S
      | some c => qn_fl p t s n (qn_beg t S c)
    else S
def qn_f4 (p : qp_T) (t : Nat) (S : qn_S) : qn_S := qn_fl p t 3 3 (qn_fl p t 2 3 (qn_fl p t 1 3 (qn_fl p t 0 3 S)))
def qn_st (p : qp_T) (t : Nat) (S : qn_S) : qn_S := qn_f4 p t (qn_ev p t (qn_fi p t S) S)
def qn_0 : qn_S := (fun _ => 0, fun _ => 0, fun _ => 0, fun _ => 0, fun _ => 0)
def qn_ps (p : qp_T) : Nat → qn_S
  | 0 => qn_0
  | t + 1 => qn_st p t (qn_ps p t)
theorem qn_ev_cu (p : qp_T) (t : Nat) (D : Nat → Bool) (S : qn_S) (c : Nat) : qn_cu (qn_ev p t D S) c = if D c = true then qn_nk S c else qn_cu S c := rfl
theorem qn_ev_ph (p : qp_T) (t : Nat) (D : Nat → Bool) (S : qn_S) (c : Nat) : qn_ph (qn_ev p t D S) c = if D c = true then (if qn_nk S c = qp_vc p c then 3 else 1) else qn_ph S c := rfl
theorem qn_ev_J (p : qp_T) (t : Nat) (D : Nat → Bool) (S : qn_S) (v : Nat) : qn_J (qn_ev p t D S) v = if D (v / 4) = true ∧ qn_nk S (v / 4) ≠ qp_vc p (v / 4) ∧ v % 4 = qn_nk S (v / 4) then t else qn_J S v := rfl
theorem qn_ev_B (p : qp_T) (t : Nat) (D : Nat → Bool) (S : qn_S) : qn_B (qn_ev p t D S) = qn_B S := rfl
theorem qn_ev_L (p : qp_T) (t : Nat) (D : Nat → Bool) (S : qn_S) (c : Nat) : qn_L (qn_ev p t D S) c = if D c = true ∧ qn_nk S c = qp_vc p c then t else qn_L S c := rfl
theorem qn_ext {S R : qn_S} (h1 : ∀ c, qn_cu S c = qn_cu R c) (h2 : ∀ c, qn_ph S c = qn_ph R c) (h4 : ∀ c, qn_J S c = qn_J R c) (h5 : ∀ c, qn_B S c = qn_B R c) (h6 : ∀ c, qn_L S c = qn_L R c) : S = R :=
  Prod.ext (funext h1) (Prod.ext (funext h2) (Prod.ext (funext h4) (Prod.ext (funext h5) (funext h6))))
theorem qn_ev_none {p : qp_T} {t : Nat} {D : Nat → Bool} {S : qn_S} (h : ∀ c, D c = false) : qn_ev p t D S = S := by
  have hn : ∀ c, ¬ D c = true := fun c => by rw [h c]; decide
  exact qn_ext (fun c => by rw [qn_ev_cu, if_neg (hn c)]) (fun c => by rw [qn_ev_ph, if_neg (hn c)])
    (fun v => by rw [qn_ev_J, if_neg (fun z => hn _ z.1)]) (fun c => rfl)
    (fun c => by rw [qn_ev_L, if_neg (fun z => hn _ z.1)])
-- a customer that is not of D stays as it is
theorem qn_evn_cu {p : qp_T} {t : Nat} {D : Nat → Bool} {S : qn_S} {c : Nat} (h : ¬ D c = true) : qn_cu (qn_ev p t D S) c = qn_cu S c := by rw [qn_ev_cu, if_neg h]
theorem qn_evn_ph {p : qp_T} {t : Nat} {D : Nat → Bool} {S : qn_S} {c : Nat} (h : ¬ D c = true) : qn_ph (qn_ev p t D S) c = qn_ph S c := by rw [qn_ev_ph, if_neg h]
theorem qn_evn_L {p : qp_T} {t : Nat} {D : Nat → Bool} {S : qn_S} {c : Nat} (h : ¬ D c = true) : qn_L (qn_ev p t D S) c = qn_L S c := by rw [qn_ev_L, if_neg (fun z => h z.1)]
theorem qn_d4 {c k : Nat} (h : k < 4) : (4 * c + k) / 4 = c := by omega
theorem qn_m4 {c k : Nat} (h : k < 4) : (4 * c + k) % 4 = k := by omega
theorem qn_evn_J {p : qp_T} {t : Nat} {D : Nat → Bool} {S : qn_S} {c k : Nat} (hk : k < 4) (h : ¬ D c = true) : qn_J (qn_ev p t D S) (4 * c + k) = qn_J S (4 * c + k) := by
  rw [qn_ev_J, qn_d4 hk, if_neg (fun z => h z.1)]
theorem qn_evy_J {p : qp_T} {t : Nat} {D : Nat → Bool} {S : qn_S} {c k : Nat} (hk : k < 4) (h : D c = true) : qn_J (qn_ev p t D S) (4 * c + k) = if qn_nk S c ≠ qp_vc p c ∧ k = qn_nk S c then t else qn_J S (4 * c + k) := by
  rw [qn_ev_J, qn_d4 hk, qn_m4 hk]
  by_cases e : qn_nk S c ≠ qp_vc p c ∧ k = qn_nk S c
  · rw [if_pos e, if_pos ⟨h, e⟩]
  · rw [if_neg e, if_neg (fun z => e z.2)]
theorem qn_evn_nk {p : qp_T} {t : Nat} {D : Nat → Bool} {S : qn_S} {c : Nat} (h : ¬ D c = true) : qn_nk (qn_ev p t D S) c = qn_nk S c := by
  unfold qn_nk; rw [qn_evn_cu h, qn_evn_ph h]
theorem qn_evn_v {p : qp_T} {t : Nat} {D : Nat → Bool} {S : qn_S} {c : Nat} (h : ¬ D c = true) : qn_v (qn_ev p t D S) c = qn_v S c := by
  unfold qn_v; rw [qn_evn_cu h]
theorem qn_evn_hs {p : qp_T} {t : Nat} {D : Nat → Bool} {S : qn_S} {c : Nat} (h : ¬ D c = true) : qn_hs (qn_ev p t D S) c = qn_hs S c := by
  unfold qn_hs; rw [qn_evn_ph h]
theorem qn_evn_en {p : qp_T} {t : Nat} {D : Nat → Bool} {S : qn_S} {c : Nat} (h : ¬ D c = true) : qn_en p (qn_ev p t D S) c = qn_en p S c := by
  unfold qn_en; rw [qn_evn_v h, qn_ev_B]
theorem qn_evn_tm {p : qp_T} {t : Nat} {D : Nat → Bool} {S : qn_S} {c : Nat} (h : ¬ D c = true) : qn_tm p (qn_ev p t D S) c = qn_tm p S c := by
  unfold qn_tm; rw [qn_evn_ph h, qn_evn_en h]
theorem qn_evn_num {p : qp_T} {t : Nat} {D : Nat → Bool} {S : qn_S} {c : Nat} (h : ¬ D c = true) : qn_num p (qn_ev p t D S) c = qn_num p S c := by
  unfold qn_num qn_mk; rw [qn_evn_ph h, qn_evn_tm h]
theorem qn_evy_ph {p : qp_T} {t : Nat} {D : Nat → Bool} {S : qn_S} {c : Nat} (h : D c = true) : qn_ph (qn_ev p t D S) c = if qn_nk S c = qp_vc p c then 3 else 1 := by rw [qn_ev_ph, if_pos h]
theorem qn_evy_cu {p : qp_T} {t : Nat} {D : Nat → Bool} {S : qn_S} {c : Nat} (h : D c = true) : qn_cu (qn_ev p t D S) c = qn_nk S c := by rw [qn_ev_cu, if_pos h]
theorem qn_evy_hs {p : qp_T} {t : Nat} {D : Nat → Bool} {S : qn_S} {c : Nat} (h : D c = true) : qn_hs (qn_ev p t D S) c = false := by
  unfold qn_hs
  rw [qn_evy_ph h]
  by_cases e : qn_nk S c = qp_vc p c
  · rw [if_pos e]; rfl
  · rw [if_neg e]; rfl
def qn_one (c d : Nat) : Bool := decide (d = c)
theorem qn_one_s (c : Nat) : qn_one c c = true := decide_eq_true rfl
theorem qn_one_n {c d : Nat} (h : d ≠ c) : ¬ qn_one c d = true := fun z => h (of_decide_eq_true z)
theorem qn_ev_one {p : qp_T} {t : Nat} {D : Nat → Bool} {S : qn_S} {c : Nat} (h : ¬ D c = true) : qn_ev p t (qn_one c) (qn_ev p t D S) = qn_ev p t (fun d => D d || qn_one c d) S := by
  have hk := qn_evn_nk (p := p) (t := t) (S := S) h
  have hor : ∀ d, d ≠ c → ((D d || qn_one c d) = D d) := fun d hd => by
    have : qn_one c d = false := decide_eq_false hd
    rw [this, Bool.or_false]
  have hc : (D c || qn_one c c) = true := by rw [qn_one_s, Bool.or_true]
  refine qn_ext (fun d => ?_) (fun d => ?_) (fun v => ?_) (fun d => rfl) (fun d => ?_)
  · rw [qn_ev_cu, qn_ev_cu (D := fun d => D d || qn_one c d)]
    by_cases e : d = c
    · subst e; rw [if_pos (qn_one_s d), hk]; rw [if_pos hc]
    · rw [if_neg (qn_one_n e), qn_ev_cu]; rw [hor d e]
  · rw [qn_ev_ph, qn_ev_ph (D := fun d => D d || qn_one c d)]
    by_cases e : d = c
    · subst e; rw [if_pos (qn_one_s d), hk]; rw [if_pos hc]
    · rw [if_neg (qn_one_n e), qn_ev_ph]; rw [hor d e]
  · rw [qn_ev_J, qn_ev_J (D := fun d => D d || qn_one c d)]
    by_cases e : v / 4 = c
    · rw [e, hk]
      by_cases f : qn_nk S c ≠ qp_vc p c ∧ v % 4 = qn_nk S c
      · rw [if_pos ⟨qn_one_s c, f⟩, if_pos ⟨hc, f⟩]
      · rw [if_neg (fun z => f z.2), if_neg (fun z => f z.2), qn_ev_J, e, if_neg (fun z => h z.1)]
    · rw [hor _ e, if_neg (fun z => qn_one_n e z.1), qn_ev_J]
  · rw [qn_ev_L, qn_ev_L (D := fun d => D d || qn_one c d)]
    by_cases e : d = c
    · subst e
      rw [hk]
      by_cases f : qn_nk S d = qp_vc p d
      · rw [if_pos ⟨qn_one_s d, f⟩, if_pos ⟨hc, f⟩]
      · rw [if_neg (fun z => f z.2), if_neg (fun z => f z.2), qn_evn_L h]
    · rw [hor _ e, if_neg (fun z => qn_one_n e z.1), qn_ev_L]
-- the pick
theorem qn_pk_n {p : qp_T} {S : qn_S} {s : Nat} : ∀ {k : Nat}, qn_pk p S s k = none → ∀ d, d < k → ¬ qn_wt p S s d = true
  | 0, _, d, hd => absurd hd (by omega)
  | k + 1, h, d, hd => by
    unfold qn_pk at h
    cases e : qn_pk p S s k with
    | none =>
      rw [e] at h
      dsimp only at h
      by_cases w : qn_wt p S s k = true
      · rw [if_pos w] at h; exact absurd h (by intro z; cases z)
      · by_cases f : d = k
        · rw [f]; exact w
        · exact qn_pk_n e d (by omega)
    | some b =>
      rw [e] at h
      dsimp only at h
      by_cases w : qn_wt p S s k = true ∧ qn_gb p (qp_ru p s) S k b = true
      · rw [if_pos w] at h; exact absurd h (by intro z; cases z)
      · rw [if_neg w] at h; exact absurd h (by intro z; cases z)
theorem qn_pk_y {p : qp_T} {S : qn_S} {s b : Nat} : ∀ {k : Nat}, qn_pk p S s k = some b → b < k ∧ qn_wt p S s b = true
  | 0, h => by unfold qn_pk at h; cases h
  | k + 1, h => by
    unfold qn_pk at h
    cases e : qn_pk p S s k with
    | none =>
      rw [e] at h
      dsimp only at h
      by_cases w : qn_wt p S s k = true
      · rw [if_pos w] at h
        cases h
        exact ⟨by omega, w⟩
      · rw [if_neg w] at h; cases h
    | some d =>
      rw [e] at h
      dsimp only at h
      by_cases w : qn_wt p S s k = true ∧ qn_gb p (qp_ru p s) S k d = true
      · rw [if_pos w] at h
        cases h
        exact ⟨by omega, w.1⟩
      · rw [if_neg w] at h
        cases h
        have := qn_pk_y e
        exact ⟨by omega, this.2⟩
theorem qn_pk_none {p : qp_T} {S : qn_S} {s : Nat} : ∀ {k : Nat}, (∀ d, d < k → ¬ qn_wt p S s d = true) → qn_pk p S s k = none
  | 0, _ => rfl
  | k + 1, h => by
    unfold qn_pk
    rw [qn_pk_none (k := k) (fun d hd => h d (by omega))]
    dsimp only
    rw [if_neg (h k (by omega))]
theorem qn_pk_ext {p : qp_T} {S R : qn_S} {s : Nat} (hg : ∀ c b, qn_gb p (qp_ru p s) R c b = qn_gb p (qp_ru p s) S c b) : ∀ {k : Nat}, (∀ d, d < k → qn_wt p R s d = qn_wt p S s d) → qn_pk p R s k = qn_pk p S s k
  | 0, _ => rfl
  | k + 1, h => by
    unfold qn_pk
    rw [qn_pk_ext hg (k := k) (fun d hd => h d (by omega)), h k (by omega)]
    cases qn_pk p S s k with
    | none => rfl
    | some b => dsimp only; rw [hg]
end
section
theorem qn_beg_ph (t : Nat) (S : qn_S) (c : Nat) : qn_ph (qn_beg t S c) = qn_u (qn_ph S) c 2 := rfl
theorem qn_beg_B (t : Nat) (S : qn_S) (c : Nat) : qn_B (qn_beg t S c) = qn_u (qn_B S) (qn_v S c) t := rfl
theorem qn_beg_cu (t : Nat) (S : qn_S) (c : Nat) : qn_cu (qn_beg t S c) = qn_cu S := rfl
theorem qn_beg_J (t : Nat) (S : qn_S) (c : Nat) : qn_J (qn_beg t S c) = qn_J S := rfl
theorem qn_beg_L (t : Nat) (S : qn_S) (c : Nat) : qn_L (qn_beg t S c) = qn_L S := rfl
theorem qn_beg_v (t : Nat) (S : qn_S) (c : Nat) : qn_v (qn_beg t S c) = qn_v S := rfl
theorem qn_begn_ph {t : Nat} {S : qn_S} {c d : Nat} (h : d ≠ c) : qn_ph (qn_beg t S c) d = qn_ph S d := by rw [qn_beg_ph, qn_un h]
theorem qn_begy_ph {t : Nat} {S : qn_S} {c : Nat} : qn_ph (qn_beg t S c) c = 2 := by rw [qn_beg_ph, qn_us]
theorem qn_begn_B {t : Nat} {S : qn_S} {c d k : Nat} (h : d ≠ c) (hk : k < 4) (hc : qn_cu S c < 4) : qn_B (qn_beg t S c) (4 * d + k) = qn_B S (4 * d + k) := by
  rw [qn_beg_B, qn_un]; unfold qn_v; omega
theorem qn_begn_en {p : qp_T} {t : Nat} {S : qn_S} {c d : Nat} (h : d ≠ c) (hk : qn_cu S d < 4) (hc : qn_cu S c < 4) : qn_en p (qn_beg t S c) d = qn_en p S d := by
  unfold qn_en
  rw [qn_beg_v]
  show qn_B (qn_beg t S c) (4 * d + qn_cu S d) + _ = qn_B S (4 * d + qn_cu S d) + _
  rw [qn_begn_B h hk hc]
theorem qn_begy_en {p : qp_T} {t : Nat} {S : qn_S} {c : Nat} : qn_en p (qn_beg t S c) c = t + qp_vn p (qn_v S c) := by
  unfold qn_en
  rw [qn_beg_v, qn_beg_B, qn_us]
def qn_jd (S : qn_S) (c k : Nat) : Prop := k < qn_cu S c ∨ (k = qn_cu S c ∧ (qn_ph S c = 1 ∨ qn_ph S c = 2))
def qn_bd (S : qn_S) (c k : Nat) : Prop := k < qn_cu S c ∨ (k = qn_cu S c ∧ qn_ph S c = 2)
def qn_wf (p : qp_T) (S : qn_S) (c : Nat) : Prop := (qn_ph S c = 0 ∧ qn_cu S c = 0) ∨ (qn_ph S c = 1 ∧ qn_cu S c < qp_vc p c) ∨ (qn_ph S c = 2 ∧ qn_cu S c < qp_vc p c) ∨ (qn_ph S c = 3 ∧ qn_cu S c = qp_vc p c)
def qn_K (p : qp_T) (t : Nat) (S : qn_S) (c : Nat) : Prop :=
  qn_wf p S c ∧
  (∀ k, k < 4 → qn_jd S c k → qn_J S (4 * c + k) ≤ t) ∧
  (∀ k, k < 4 → qn_bd S c k → qn_J S (4 * c + k) ≤ qn_B S (4 * c + k) ∧ qn_B S (4 * c + k) ≤ t) ∧
  (∀ k, k < 4 → k < qn_cu S c → qn_B S (4 * c + k) + qp_vn p (4 * c + k) ≤ t) ∧
  (qn_ph S c = 3 → qn_L S c ≤ t ∧ ∀ k, k < 4 → k < qp_vc p c → qn_B S (4 * c + k) + qp_vn p (4 * c + k) ≤ qn_L S c)
theorem qn_K_mono {p : qp_T} {t r : Nat} {S : qn_S} {c : Nat} (h : t ≤ r) (K : qn_K p t S c) : qn_K p r S c := by
  obtain ⟨k1, k2, k3, k4, k5⟩ := K
  exact ⟨k1, fun k hk hj => Nat.le_trans (k2 k hk hj) h, fun k hk hb => ⟨(k3 k hk hb).1, Nat.le_trans (k3 k hk hb).2 h⟩,
    fun k hk hc => Nat.le_trans (k4 k hk hc) h, fun h3 => ⟨Nat.le_trans (k5 h3).1 h, (k5 h3).2⟩⟩
theorem qn_K_of {p : qp_T} {t : Nat} {S R : qn_S} {c : Nat} (h1 : qn_cu R c = qn_cu S c) (h2 : qn_ph R c = qn_ph S c) (h3 : ∀ k, k < 4 → qn_J R (4 * c + k) = qn_J S (4 * c + k)) (h4 : ∀ k, k < 4 → qn_B R (4 * c + k) = qn_B S (4 * c + k)) (h5 : qn_L R c = qn_L S c) (K : qn_K p t S c) : qn_K p t R c := by
  obtain ⟨k1, k2, k3, k4, k5⟩ := K
  unfold qn_wf at k1
  unfold qn_jd at k2
  unfold qn_bd at k3
  refine ⟨?_, fun k hk hj => ?_, fun k hk hb => ?_, fun k hk hc => ?_, fun e3 => ?_⟩
  · unfold qn_wf; rw [h1, h2]; exact k1
  · unfold qn_jd at hj; rw [h1, h2] at hj; rw [h3 k hk]; exact k2 k hk hj
  · unfold qn_bd at hb; rw [h1, h2] at hb; rw [h3 k hk, h4 k hk]; exact k3 k hk hb
  · rw [h1] at hc; rw [h4 k hk]; exact k4 k hk hc
  · rw [h2] at e3
    rw [h5]
    refine ⟨(k5 e3).1, fun k hk hc => ?_⟩
    rw [h4 k hk]
    exact (k5 e3).2 k hk hc
theorem qn_hs_iff {S : qn_S} {c : Nat} : qn_hs S c = true ↔ (qn_ph S c = 0 ∨ qn_ph S c = 2) := by unfold qn_hs; exact decide_eq_true_iff
theorem qn_fi_iff {p : qp_T} {t : Nat} {S : qn_S} {c : Nat} : qn_fi p t S c = true ↔ (c < qp_m p ∧ qn_hs S c = true ∧ qn_tm p S c = t) := by unfold qn_fi; exact decide_eq_true_iff
theorem qn_wt_iff {p : qp_T} {S : qn_S} {s c : Nat} : qn_wt p S s c = true ↔ (qn_ph S c = 1 ∧ qp_vs p (qn_v S c) = s) := by unfold qn_wt; exact decide_eq_true_iff
theorem qn_sg_iff {p : qp_T} {S : qn_S} {s c : Nat} : qn_sg p S s c = true ↔ (qn_ph S c = 2 ∧ qp_vs p (qn_v S c) = s) := by unfold qn_sg; exact decide_eq_true_iff
theorem qn_tm_0 {p : qp_T} {S : qn_S} {c : Nat} (h : qn_ph S c = 0) : qn_tm p S c = qp_ar p c := by unfold qn_tm; rw [if_pos h]
theorem qn_tm_2 {p : qp_T} {S : qn_S} {c : Nat} (h : qn_ph S c = 2) : qn_tm p S c = qn_en p S c := by unfold qn_tm; rw [if_neg (by omega)]
theorem qn_nk_0 {S : qn_S} {c : Nat} (h : qn_ph S c = 0) : qn_nk S c = qn_cu S c := by unfold qn_nk; rw [if_neg (by omega)]
theorem qn_nk_2 {S : qn_S} {c : Nat} (h : qn_ph S c = 2) : qn_nk S c = qn_cu S c + 1 := by unfold qn_nk; rw [if_pos h]
-- one that has an event: its next visit's number is at most the number of visits
theorem qn_nk_le {p : qp_T} {S : qn_S} {c : Nat} (w : qn_wf p S c) (h : qn_hs S c = true) : qn_nk S c ≤ qp_vc p c := by
  rcases qn_hs_iff.mp h with e | e
  · rw [qn_nk_0 e]; unfold qn_wf at w; omega
  · rw [qn_nk_2 e]; unfold qn_wf at w; omega
theorem qn_wf_ev {p : qp_T} {t : Nat} {D : Nat → Bool} {S : qn_S} {c : Nat} (w : qn_wf p S c) (h : D c = true → qn_hs S c = true) : qn_wf p (qn_ev p t D S) c := by
  by_cases d : D c = true
  · have hn := qn_nk_le w (h d)
    unfold qn_wf
    rw [qn_evy_ph d, qn_evy_cu d]
    by_cases e : qn_nk S c = qp_vc p c
    · rw [if_pos e]; exact Or.inr (Or.inr (Or.inr ⟨rfl, e⟩))
    · rw [if_neg e]; exact Or.inr (Or.inl ⟨rfl, by omega⟩)
  · unfold qn_wf
    rw [qn_evn_ph d, qn_evn_cu d]
    exact w
theorem qn_K_ev {p : qp_T} {t : Nat} {D : Nat → Bool} {S : qn_S} {c : Nat} (hv : qp_vc p c ≤ 4) (K : qn_K p t S c) (h : D c = true → qn_hs S c = true ∧ qn_tm p S c = t) : qn_K p t (qn_ev p t D S) c := by
  by_cases d : D c = true
  · obtain ⟨hh, ht⟩ := h d
    have wf' := qn_wf_ev (t := t) (D := D) K.1 (fun z => (h z).1)
    have hn := qn_nk_le K.1 hh
    obtain ⟨k1, k2, k3, k4, k5⟩ := K
    have F : ∀ k, k < 4 → k < qn_nk S c → qn_J S (4 * c + k) ≤ qn_B S (4 * c + k) ∧ qn_B S (4 * c + k) ≤ t ∧ qn_B S (4 * c + k) + qp_vn p (4 * c + k) ≤ t := by
      intro k hk hl
      rcases qn_hs_iff.mp hh with e | e
      · rw [qn_nk_0 e] at hl; unfold qn_wf at k1; omega
      · rw [qn_nk_2 e] at hl
        by_cases f : k < qn_cu S c
        · exact ⟨(k3 k hk (Or.inl f)).1, (k3 k hk (Or.inl f)).2, k4 k hk f⟩
        · have g : k = qn_cu S c := by omega
          have h3 := k3 k hk (Or.inr ⟨g, e⟩)
          rw [qn_tm_2 e] at ht
          unfold qn_en qn_v at ht
          rw [← g] at ht
          exact ⟨h3.1, h3.2, by omega⟩
    have J0 : ∀ k, k < 4 → k < qn_nk S c → qn_J (qn_ev p t D S) (4 * c + k) = qn_J S (4 * c + k) := by
      intro k hk hl
      rw [qn_evy_J hk d, if_neg (by omega)]
    refine ⟨wf', fun k hk hj => ?_, fun k hk hb => ?_, fun k hk hc => ?_, fun e3 => ?_⟩
    · unfold qn_jd at hj
      rw [qn_evy_cu d] at hj
      by_cases f : k < qn_nk S c
      · rw [J0 k hk f]; have := F k hk f; omega
      · rw [qn_evy_J hk d]
        rw [qn_evy_ph d] at hj
        by_cases e : qn_nk S c = qp_vc p c
        · rw [if_pos e] at hj; omega
        · rw [if_pos ⟨e, by omega⟩]; exact Nat.le_refl _
    · unfold qn_bd at hb
      rw [qn_evy_cu d, qn_evy_ph d] at hb
      have f : k < qn_nk S c := by
        by_cases e : qn_nk S c = qp_vc p c
        · rw [if_pos e] at hb; omega
        · rw [if_neg e] at hb; omega
      rw [J0 k hk f, qn_ev_B]
      have := F k hk f
      omega
    · rw [qn_evy_cu d] at hc
      rw [qn_ev_B]
      exact (F k hk hc).2.2
    · rw [qn_evy_ph d] at e3
      by_cases e : qn_nk S c = qp_vc p c
      · rw [qn_ev_L, if_pos ⟨d, e⟩]
        refine ⟨Nat.le_refl _, fun k hk hc => ?_⟩
        rw [qn_ev_B]
        exact (F k hk (by omega)).2.2
      · rw [if_neg e] at e3; omega
  · exact qn_K_of (qn_evn_cu d) (qn_evn_ph d) (fun k hk => qn_evn_J hk d) (fun k hk => rfl) (qn_evn_L d) K
theorem qn_K_beg {p : qp_T} {t : Nat} {S : qn_S} {c d : Nat} (hv : qp_vc p c ≤ 4) (h1 : qn_ph S c = 1) (hc : qn_cu S c < qp_vc p c) (K : qn_K p t S d) : qn_K p t (qn_beg t S c) d := by
  by_cases e : d = c
  · subst e
    obtain ⟨k1, k2, k3, k4, k5⟩ := K
    have B0 : ∀ k, k < 4 → k < qn_cu S d → qn_B (qn_beg t S d) (4 * d + k) = qn_B S (4 * d + k) := by
      intro k hk hl
      rw [qn_beg_B, qn_un]; unfold qn_v; omega
    refine ⟨Or.inr (Or.inr (Or.inl ⟨qn_begy_ph, hc⟩)), fun k hk hj => ?_, fun k hk hb => ?_, fun k hk hl => ?_, fun e3 => ?_⟩
    · rw [qn_beg_J]
      refine k2 k hk ?_
      unfold qn_jd at hj ⊢
      rw [qn_beg_cu] at hj
      omega
    · unfold qn_bd at hb
      rw [qn_beg_cu] at hb
      rw [qn_beg_J]
      by_cases f : k < qn_cu S d
      · rw [B0 k hk f]; exact k3 k hk (Or.inl f)
      · have g : k = qn_cu S d := by omega
        have hB : qn_B (qn_beg t S d) (4 * d + k) = t := by
          rw [qn_beg_B, g]; exact qn_us
        rw [hB]
        exact ⟨k2 k hk (Or.inr ⟨g, Or.inl h1⟩), Nat.le_refl _⟩
    · rw [qn_beg_cu] at hl
      rw [B0 k hk hl]
      exact k4 k hk hl
    · rw [qn_begy_ph] at e3; omega
  · exact qn_K_of (S := S) rfl (qn_begn_ph e) (fun k hk => rfl) (fun k hk => qn_begn_B e hk (by omega)) rfl K
-- visits not yet begun
def qn_py (p : qp_T) (S : qn_S) (c : Nat) : Nat := if qn_ph S c = 0 then qp_vc p c else if qn_ph S c = 1 then qp_vc p c - qn_cu S c else if qn_ph S c = 2 then qp_vc p c - qn_cu S c - 1 else 0
def qn_Psi (p : qp_T) (S : qn_S) : Nat := qs_sum (qn_py p S) (qp_m p)
-- events to come in all
def qn_ey (p : qp_T) (S : qn_S) (c : Nat) : Nat := if qn_ph S c = 0 then qp_vc p c + 1 else if qn_ph S c = 3 then 0 else qp_vc p c - qn_cu S c
def qn_Phi (p : qp_T) (S : qn_S) : Nat := qs_sum (qn_ey p S) (qp_m p)
theorem qn_py_0 {p : qp_T} {S : qn_S} {c : Nat} (h : qn_ph S c = 0) : qn_py p S c = qp_vc p c := by unfold qn_py; rw [if_pos h]
theorem qn_py_1 {p : qp_T} {S : qn_S} {c : Nat} (h : qn_ph S c = 1) : qn_py p S c = qp_vc p c - qn_cu S c := by unfold qn_py; rw [if_neg (by omega), if_pos h]
theorem qn_py_2 {p : qp_T} {S : qn_S} {c : Nat} (h : qn_ph S c = 2) : qn_py p S c = qp_vc p c - qn_cu S c - 1 := by unfold qn_py; rw [if_neg (by omega), if_neg (by omega), if_pos h]
theorem qn_py_3 {p : qp_T} {S : qn_S} {c : Nat} (h : qn_ph S c = 3) : qn_py p S c = 0 := by unfold qn_py; rw [if_neg (by omega), if_neg (by omega), if_neg (by omega)]
theorem qn_ey_0 {p : qp_T} {S : qn_S} {c : Nat} (h : qn_ph S c = 0) : qn_ey p S c = qp_vc p c + 1 := by unfold qn_ey; rw [if_pos h]
theorem qn_ey_1 {p : qp_T} {S : qn_S} {c : Nat} (h : qn_ph S c = 1) : qn_ey p S c = qp_vc p c - qn_cu S c := by unfold qn_ey; rw [if_neg (by omega), if_neg (by omega)]
theorem qn_ey_2 {p : qp_T} {S : qn_S} {c : Nat} (h : qn_ph S c = 2) : qn_ey p S c = qp_vc p c - qn_cu S c := by unfold qn_ey; rw [if_neg (by omega), if_neg (by omega)]
theorem qn_ey_3 {p : qp_T} {S : qn_S} {c : Nat} (h : qn_ph S c = 3) : qn_ey p S c = 0 := by unfold qn_ey; rw [if_neg (by omega), if_pos h]
theorem qn_py_ev {p : qp_T} {t : Nat} {D : Nat → Bool} {S : qn_S} {c : Nat} (w : qn_wf p S c) (h : D c = true → qn_hs S c = true) : qn_py p (qn_ev p t D S) c = qn_py p S c := by
  by_cases d : D c = true
  · have hh := h d
    have hc := qn_evy_cu (p := p) (t := t) (S := S) d
    have hp := qn_evy_ph (p := p) (t := t) (S := S) d
    rcases qn_hs_iff.mp hh with e | e
    · have hn := qn_nk_0 e
      have h0 : qn_cu S c = 0 := by unfold qn_wf at w; omega
      by_cases f : qn_nk S c = qp_vc p c
      · rw [if_pos f] at hp; rw [qn_py_3 hp, qn_py_0 e]; omega
      · rw [if_neg f] at hp; rw [qn_py_1 hp, qn_py_0 e, hc]; omega
    · have hn := qn_nk_2 e
      have h0 : qn_cu S c < qp_vc p c := by unfold qn_wf at w; omega
      by_cases f : qn_nk S c = qp_vc p c
      · rw [if_pos f] at hp; rw [qn_py_3 hp, qn_py_2 e]; omega
      · rw [if_neg f] at hp; rw [qn_py_1 hp, qn_py_2 e, hc]; omega
  · unfold qn_py; rw [qn_evn_ph d, qn_evn_cu d]
theorem qn_ey_ev {p : qp_T} {t : Nat} {D : Nat → Bool} {S : qn_S} {c : Nat} (w : qn_wf p S c) (d : D c = true) (hh : qn_hs S c = true) : qn_ey p (qn_ev p t D S) c + 1 = qn_ey p S c := by
  have hc := qn_evy_cu (p := p) (t := t) (S := S) d
  have hp := qn_evy_ph (p := p) (t := t) (S := S) d
  rcases qn_hs_iff.mp hh with e | e
  · have hn := qn_nk_0 e
    have h0 : qn_cu S c = 0 := by unfold qn_wf at w; omega
    by_cases f : qn_nk S c = qp_vc p c
    · rw [if_pos f] at hp; rw [qn_ey_3 hp, qn_ey_0 e]; omega
    · rw [if_neg f] at hp; rw [qn_ey_1 hp, qn_ey_0 e, hc]; omega
  · have hn := qn_nk_2 e
    have h0 : qn_cu S c < qp_vc p c := by unfold qn_wf at w; omega
    by_cases f : qn_nk S c = qp_vc p c
    · rw [if_pos f] at hp; rw [qn_ey_3 hp, qn_ey_2 e]; omega
    · rw [if_neg f] at hp; rw [qn_ey_1 hp, qn_ey_2 e, hc]; omega
theorem qn_eyn_ev {p : qp_T} {t : Nat} {D : Nat → Bool} {S : qn_S} {c : Nat} (d : ¬ D c = true) : qn_ey p (qn_ev p t D S) c = qn_ey p S c := by
  unfold qn_ey; rw [qn_evn_ph d, qn_evn_cu d]
theorem qn_Psi_ev {p : qp_T} {t : Nat} {D : Nat → Bool} {S : qn_S} (w : ∀ c, c < qp_m p → qn_wf p S c) (h : ∀ c, D c = true → qn_hs S c = true) : qn_Psi p (qn_ev p t D S) = qn_Psi p S :=
  qs_sum_ext (fun c hc => qn_py_ev (w c hc) (h c))
theorem qn_Phi_ev {p : qp_T} {t : Nat} {D : Nat → Bool} {S : qn_S} (w : ∀ c, c < qp_m p → qn_wf p S c) (h : ∀ c, D c = true → qn_hs S c = true) {c : Nat} (hc : c < qp_m p) (hd : D c = true) : qn_Phi p (qn_ev p t D S) + 1 ≤ qn_Phi p S := by
  refine qs_sum_lt (c := c) (fun i hi => ?_) hc ?_
  · by_cases d : D i = true
    · have := qn_ey_ev (t := t) (w i hi) d (h i d); omega
    · rw [qn_eyn_ev d]; exact Nat.le_refl _
  · have := qn_ey_ev (t := t) (w c hc) hd (h c hd); omega
theorem qn_Psi_beg {p : qp_T} {t : Nat} {S : qn_S} {c : Nat} (hm : c < qp_m p) (h1 : qn_ph S c = 1) (hc : qn_cu S c < qp_vc p c) : qn_Psi p (qn_beg t S c) + 1 = qn_Psi p S := by
  refine qs_sum_dec (c := c) ?_ (fun i hi => ?_) hm
  · rw [qn_py_1 h1, qn_py_2 qn_begy_ph, qn_beg_cu]; omega
  · unfold qn_py; rw [qn_begn_ph hi, qn_beg_cu]
theorem qn_Phi_beg {p : qp_T} {t : Nat} {S : qn_S} {c : Nat} (h1 : qn_ph S c = 1) : qn_Phi p (qn_beg t S c) = qn_Phi p S := by
  refine qs_sum_ext (fun i _ => ?_)
  by_cases e : i = c
  · subst e; rw [qn_ey_1 h1, qn_ey_2 qn_begy_ph, qn_beg_cu]
  · unfold qn_ey; rw [qn_begn_ph e, qn_beg_cu]
theorem qn_Psi_le {p : qp_T} {S : qn_S} (ok : qp_ok p) : qn_Psi p S ≤ 48 := by
  have h : qn_Psi p S ≤ 4 * qp_m p := by
    refine qs_sum_le (fun i hi => ?_)
    have hv := (ok.2.2 i hi).2.1
    unfold qn_py
    split
    · exact hv
    · split
      · omega
      · split <;> omega
  have := ok.1
  omega
theorem qn_Phi_le {p : qp_T} {S : qn_S} (ok : qp_ok p) : qn_Phi p S ≤ 60 := by
  have h : qn_Phi p S ≤ 5 * qp_m p := by
    refine qs_sum_le (fun i hi => ?_)
    have hv := (ok.2.2 i hi).2.1
    unfold qn_ey
    split
    · omega
    · split
      · omega
      · omega
  have := ok.1
  omega
theorem qn_sg_ev {p : qp_T} {t : Nat} {D : Nat → Bool} {S : qn_S} {s c : Nat} (h : qn_sg p (qn_ev p t D S) s c = true) : ¬ D c = true ∧ qn_sg p S s c = true := by
  rw [qn_sg_iff] at h
  by_cases d : D c = true
  · rw [qn_evy_ph d] at h
    by_cases f : qn_nk S c = qp_vc p c
    · rw [if_pos f] at h; omega
    · rw [if_neg f] at h; omega
  · rw [qn_evn_ph d, qn_evn_v d] at h
    exact ⟨d, qn_sg_iff.mpr h⟩
theorem qn_nsg_ev {p : qp_T} {t : Nat} {D : Nat → Bool} {S : qn_S} {s : Nat} : qn_nsg p (qn_ev p t D S) s ≤ qn_nsg p S s :=
  qs_cnt_mono (fun c _ h => (qn_sg_ev h).2)
theorem qn_nsg_beg {p : qp_T} {t : Nat} {S : qn_S} {s c : Nat} (hm : c < qp_m p) (h1 : qn_ph S c = 1) (hs : qp_vs p (qn_v S c) = s) : qn_nsg p (qn_beg t S c) s = qn_nsg p S s + 1 := by
  refine qs_cnt_set (c := c) ?_ ?_ (fun i hi => ?_) hm
  · exact decide_eq_false (fun z => by omega)
  · exact qn_sg_iff.mpr ⟨qn_begy_ph, hs⟩
  · unfold qn_sg; rw [qn_begn_ph hi, qn_beg_v]
theorem qn_nsg_begn {p : qp_T} {t : Nat} {S : qn_S} {s c : Nat} (h1 : qn_ph S c = 1) (hs : qp_vs p (qn_v S c) ≠ s) : qn_nsg p (qn_beg t S c) s = qn_nsg p S s := by
  refine qs_cnt_ext (fun i _ => ?_)
  unfold qn_sg
  by_cases e : i = c
  · subst e; rw [qn_beg_v, decide_eq_false (fun z => hs z.2), decide_eq_false (fun z => hs z.2)]
  · rw [qn_begn_ph e, qn_beg_v]
theorem qn_pk_begn {p : qp_T} {t : Nat} {S : qn_S} {s c k : Nat} (hs : qp_vs p (qn_v S c) ≠ s) : qn_pk p (qn_beg t S c) s k = qn_pk p S s k := by
  refine qn_pk_ext (S := S) (R := qn_beg t S c) (fun _ _ => rfl) (fun d _ => ?_)
  unfold qn_wt
  by_cases e : d = c
  · subst e; rw [qn_beg_v, decide_eq_false (fun z => hs z.2), decide_eq_false (fun z => hs z.2)]
  · rw [qn_begn_ph e, qn_beg_v]
-- no more can begin at s
def qn_bl (p : qp_T) (S : qn_S) (s : Nat) : Prop := qn_nsg p S s < qp_sv p s → qn_pk p S s (qp_m p) = none
theorem qn_fl_b {p : qp_T} {t s : Nat} {S : qn_S} (h : qn_bl p S s) : ∀ n, qn_fl p t s n S = S
  | 0 => rfl
  | n + 1 => by
    unfold qn_fl
    by_cases e : qn_nsg p S s < qp_sv p s
    · rw [if_pos e, h e]
    · rw [if_neg e]
theorem qn_fl_s {p : qp_T} {t s c : Nat} {S : qn_S} (h : qn_nsg p S s < qp_sv p s) (hc : qn_pk p S s (qp_m p) = some c) (n : Nat) : qn_fl p t s (n + 1) S = qn_fl p t s n (qn_beg t S c) := by
  rw [qn_fl, if_pos h, hc]
theorem qn_fl_ind {p : qp_T} {t s : Nat} {Q : qn_S → Prop} (hb : ∀ S c, Q S → qn_nsg p S s < qp_sv p s → qn_pk p S s (qp_m p) = some c → Q (qn_beg t S c)) : ∀ n S, Q S → Q (qn_fl p t s n S)
  | 0, S, h => h
  | n + 1, S, h => by
    by_cases e : qn_nsg p S s < qp_sv p s
    · cases f : qn_pk p S s (qp_m p) with
      | none => rw [qn_fl_b (fun _ => f)]; exact h
      | some c => rw [qn_fl_s e f]; exact qn_fl_ind hb n _ (hb S c h e f)
    · rw [qn_fl_b (fun z => absurd z e)]; exact h
-- after enough begins no more can begin
theorem qn_fl_bl {p : qp_T} {t s : Nat} : ∀ n S, qp_sv p s ≤ qn_nsg p S s + n → qn_bl p (qn_fl p t s n S) s
  | 0, S, h => fun z => by
    have e : qn_fl p t s 0 S = S := rfl
    rw [e] at z
    omega
  | n + 1, S, h => by
    by_cases e : qn_nsg p S s < qp_sv p s
    · cases f : qn_pk p S s (qp_m p) with
      | none => rw [qn_fl_b (fun _ => f)]; exact fun _ => f
      | some c =>
        rw [qn_fl_s e f]
        obtain ⟨hc, hw⟩ := qn_pk_y f
        rw [qn_wt_iff] at hw
        refine qn_fl_bl n _ ?_
        rw [qn_nsg_beg hc hw.1 hw.2]
        omega
    · rw [qn_fl_b (fun z => absurd z e)]; exact fun z => absurd z e
theorem qn_bl_beg {p : qp_T} {t : Nat} {S : qn_S} {s c : Nat} (h1 : qn_ph S c = 1) (hs : qp_vs p (qn_v S c) ≠ s) (h : qn_bl p S s) : qn_bl p (qn_beg t S c) s := by
  intro z
  rw [qn_nsg_begn h1 hs] at z
  rw [qn_pk_begn hs]
  exact h z
theorem qn_bl_fl {p : qp_T} {t s r : Nat} (n : Nat) {S : qn_S} (hr : r ≠ s) (h : qn_bl p S r) : qn_bl p (qn_fl p t s n S) r := by
  refine qn_fl_ind (Q := fun R => qn_bl p R r) (fun R c hR _ hc => ?_) n S h
  have hw := (qn_pk_y hc).2
  rw [qn_wt_iff] at hw
  exact qn_bl_beg hw.1 (fun z => hr (by rw [← z, hw.2])) hR
end
section
def qn_Ka (p : qp_T) (t : Nat) (S : qn_S) : Prop := ∀ c, c < qp_m p → qn_K p t S c
def qn_F (p : qp_T) (S : qn_S) : Prop := ∀ s, s < 4 → qn_nsg p S s ≤ qp_sv p s
def qn_U (p : qp_T) (S : qn_S) : Prop := ∀ c, c < qp_m p → qn_ph S c = 2 → qn_en p S c + 30 * qn_Psi p S ≤ 1540
def qn_N (p : qp_T) (t : Nat) (S : qn_S) : Prop := ∀ c, c < qp_m p → qn_hs S c = true → t ≤ qn_tm p S c
def qn_se (p : qp_T) (S : qn_S) : Prop := ∀ s, s < 4 → qn_bl p S s
-- in the midst of time t, nothing to come before n
def qn_Q (p : qp_T) (t n : Nat) (S : qn_S) : Prop := qn_Ka p t S ∧ qn_F p S ∧ qn_U p S ∧ t + 30 * qn_Psi p S ≤ 1540 ∧ qn_N p n S
-- when the times before t are done
def qn_A (p : qp_T) (t : Nat) (S : qn_S) : Prop := qn_Ka p (min t 1540) S ∧ qn_F p S ∧ qn_U p S ∧ qn_N p t S ∧ qn_se p S
theorem qn_wfa {p : qp_T} {t : Nat} {S : qn_S} (h : qn_Ka p t S) : ∀ c, c < qp_m p → qn_wf p S c := fun c hc => (h c hc).1
theorem qn_cu4 {p : qp_T} {t : Nat} {S : qn_S} (ok : qp_ok p) (h : qn_Ka p t S) {c : Nat} (hc : c < qp_m p) (h1 : qn_ph S c = 1 ∨ qn_ph S c = 2) : qn_cu S c < qp_vc p c ∧ qn_cu S c < 4 := by
  have w := (h c hc).1
  have hv := (ok.2.2 c hc).2.1
  unfold qn_wf at w
  omega
theorem qn_Q_beg {p : qp_T} {t : Nat} {S : qn_S} {s c : Nat} (ok : qp_ok p) (hs : s < 4) (Q : qn_Q p t (t + 1) S) (hn : qn_nsg p S s < qp_sv p s) (hp : qn_pk p S s (qp_m p) = some c) : qn_Q p t (t + 1) (qn_beg t S c) := by
  obtain ⟨q1, q2, q3, q4, q5⟩ := Q
  obtain ⟨hc, hw⟩ := qn_pk_y hp
  rw [qn_wt_iff] at hw
  have hcu := qn_cu4 ok q1 hc (Or.inl hw.1)
  have okc := ok.2.2 c hc
  have hPsi := qn_Psi_beg (t := t) hc hw.1 hcu.1
  have hvn := okc.2.2 (qn_cu S c) hcu.1
  have hvn' : 1 ≤ qp_vn p (qn_v S c) ∧ qp_vn p (qn_v S c) ≤ 30 := hvn.2
  refine ⟨fun d hd => qn_K_beg okc.2.1 hw.1 hcu.1 (q1 d hd), fun r hr => ?_, fun d hd h2 => ?_, by omega, fun d hd hh => ?_⟩
  · by_cases e : qp_vs p (qn_v S c) = r
    · rw [qn_nsg_beg hc hw.1 e]
      have : s = r := by rw [← hw.2, e]
      subst this
      omega
    · rw [qn_nsg_begn hw.1 e]; exact q2 r hr
  · by_cases e : d = c
    · subst e; rw [qn_begy_en]; omega
    · rw [qn_begn_ph e] at h2
      rw [qn_begn_en e (qn_cu4 ok q1 hd (Or.inr h2)).2 hcu.2]
      have := q3 d hd h2
      omega
  · by_cases e : d = c
    · subst e; rw [qn_tm_2 qn_begy_ph, qn_begy_en]; omega
    · rw [qn_hs_iff, qn_begn_ph e] at hh
      have h0 := q5 d hd (qn_hs_iff.mpr hh)
      rcases hh with h | h
      · rw [qn_tm_0 (by rw [qn_begn_ph e]; exact h)]
        rw [qn_tm_0 h] at h0
        exact h0
      · rw [qn_tm_2 (by rw [qn_begn_ph e]; exact h), qn_begn_en e (qn_cu4 ok q1 hd (Or.inr h)).2 hcu.2]
        rw [qn_tm_2 h] at h0
        exact h0
theorem qn_Q_fl {p : qp_T} {t : Nat} {S : qn_S} {s : Nat} (ok : qp_ok p) (hs : s < 4) (n : Nat) (Q : qn_Q p t (t + 1) S) : qn_Q p t (t + 1) (qn_fl p t s n S) :=
  qn_fl_ind (Q := fun R => qn_Q p t (t + 1) R) (fun _ _ hR hn hp => qn_Q_beg ok hs hR hn hp) n S Q
theorem qn_fl_e {p : qp_T} {t s : Nat} (ok : qp_ok p) (hs : s < 4) (S : qn_S) : qn_bl p (qn_fl p t s 3 S) s :=
  qn_fl_bl 3 S (by have := (ok.2.1 s hs).2.1; omega)
theorem qn_f4_se {p : qp_T} {t : Nat} (ok : qp_ok p) (S : qn_S) : qn_se p (qn_f4 p t S) := by
  have h0 := qn_fl_e (t := t) ok (by omega : 0 < 4) S
  have h1 := qn_fl_e (t := t) ok (by omega : 1 < 4) (qn_fl p t 0 3 S)
  have h2 := qn_fl_e (t := t) ok (by omega : 2 < 4) (qn_fl p t 1 3 (qn_fl p t 0 3 S))
  have h3 := qn_fl_e (t := t) ok (by omega : 3 < 4) (qn_fl p t 2 3 (qn_fl p t 1 3 (qn_fl p t 0 3 S)))
  have g0 := qn_bl_fl (t := t) (s := 3) 3 (by omega) (qn_bl_fl (t := t) (s := 2) 3 (by omega) (qn_bl_fl (t := t) (s := 1) 3 (by omega) h0))
  have g1 := qn_bl_fl (t := t) (s := 3) 3 (by omega) (qn_bl_fl (t := t) (s := 2) 3 (by omega) h1)
  have g2 := qn_bl_fl (t := t) (s := 3) 3 (by omega) h2
  intro s hs
  have e : s = 0 ∨ s = 1 ∨ s = 2 ∨ s = 3 := by omega
  rcases e with e | e | e | e
  · rw [e]; exact g0
  · rw [e]; exact g1
  · rw [e]; exact g2
  · rw [e]; exact h3
theorem qn_f4_b {p : qp_T} {t : Nat} {S : qn_S} (h : qn_se p S) : qn_f4 p t S = S := by
  unfold qn_f4
  rw [qn_fl_b (h 0 (by omega)), qn_fl_b (h 1 (by omega)), qn_fl_b (h 2 (by omega)), qn_fl_b (h 3 (by omega))]
theorem qn_quiet {p : qp_T} {t : Nat} {S : qn_S} (h : qn_se p S) (hn : ∀ c, ¬ qn_fi p t S c = true) : qn_st p t S = S := by
  unfold qn_st
  rw [qn_ev_none (fun c => Bool.eq_false_iff.mpr (hn c)), qn_f4_b h]
-- the midst: some of those that fire at t have fired
theorem qn_mid {p : qp_T} {t : Nat} {S : qn_S} {D : Nat → Bool} (ok : qp_ok p) (A : qn_A p t S) (hD : ∀ c, D c = true → qn_fi p t S c = true) {c0 : Nat} (h0 : qn_fi p t S c0 = true) : qn_Q p t t (qn_ev p t D S) := by
  obtain ⟨a1, a2, a3, a4, a5⟩ := A
  have hPsi := qn_Psi_ev (t := t) (qn_wfa a1) (fun c hc => (qn_fi_iff.mp (hD c hc)).2.1)
  have hb : t + 30 * qn_Psi p S ≤ 1540 := by
    obtain ⟨f1, f2, f3⟩ := qn_fi_iff.mp h0
    rcases qn_hs_iff.mp f2 with e | e
    · rw [qn_tm_0 e] at f3
      have := (ok.2.2 c0 f1).1
      have := qn_Psi_le (S := S) ok
      omega
    · rw [qn_tm_2 e] at f3
      have := a3 c0 f1 e
      omega
  refine ⟨fun c hc => ?_, fun s hs => ?_, fun c hc h2 => ?_, by rw [hPsi]; exact hb, fun c hc hh => ?_⟩
  · refine qn_K_ev (ok.2.2 c hc).2.1 (qn_K_mono (by omega) (a1 c hc)) (fun d => ?_)
    exact (qn_fi_iff.mp (hD c d)).2
  · exact Nat.le_trans qn_nsg_ev (a2 s hs)
  · have d : ¬ D c = true := by
      intro d
      rw [qn_evy_ph d] at h2
      by_cases f : qn_nk S c = qp_vc p c
      · rw [if_pos f] at h2; omega
      · rw [if_neg f] at h2; omega
    rw [qn_evn_ph d] at h2
    rw [hPsi, qn_evn_en d]
    exact a3 c hc h2
  · have d : ¬ D c = true := by
      intro d
      rw [qn_evy_hs d] at hh
      exact absurd hh (by decide)
    rw [qn_evn_hs d] at hh
    rw [qn_evn_tm d]
    exact a4 c hc hh
theorem qn_mid1 {p : qp_T} {t : Nat} {S : qn_S} (ok : qp_ok p) (A : qn_A p t S) {c0 : Nat} (h0 : qn_fi p t S c0 = true) : qn_Q p t (t + 1) (qn_ev p t (qn_fi p t S) S) := by
  obtain ⟨q1, q2, q3, q4, q5⟩ := qn_mid ok A (D := qn_fi p t S) (fun _ h => h) h0
  refine ⟨q1, q2, q3, q4, fun c hc hh => ?_⟩
  have h5 := q5 c hc hh
  have d : ¬ qn_fi p t S c = true := by
    intro d
    rw [qn_evy_hs d] at hh
    exact absurd hh (by decide)
  rw [qn_evn_tm d] at h5 ⊢
  rw [qn_evn_hs d] at hh
  have : qn_tm p S c ≠ t := fun z => d (qn_fi_iff.mpr ⟨hc, hh, z⟩)
  omega
theorem qn_A_st {p : qp_T} {t : Nat} {S : qn_S} (ok : qp_ok p) (A : qn_A p t S) : qn_A p (t + 1) (qn_st p t S) := by
  by_cases ex : ∃ c, qn_fi p t S c = true
  · obtain ⟨c0, h0⟩ := ex
    have Q1 := qn_mid1 ok A h0
    have Q2 := qn_Q_fl ok (by omega : 3 < 4) 3 (qn_Q_fl ok (by omega : 2 < 4) 3 (qn_Q_fl ok (by omega : 1 < 4) 3 (qn_Q_fl ok (by omega : 0 < 4) 3 Q1)))
    obtain ⟨q1, q2, q3, q4, q5⟩ := Q2
    refine ⟨fun c hc => qn_K_mono ?_ (q1 c hc), q2, q3, q5, qn_f4_se ok _⟩
    omega
  · have hn : ∀ c, ¬ qn_fi p t S c = true := fun c z => ex ⟨c, z⟩
    obtain ⟨a1, a2, a3, a4, a5⟩ := A
    rw [qn_quiet a5 hn]
    refine ⟨fun c hc => qn_K_mono (by omega) (a1 c hc), a2, a3, fun c hc hh => ?_, a5⟩
    have := a4 c hc hh
    have : qn_tm p S c ≠ t := fun z => hn c (qn_fi_iff.mpr ⟨hc, hh, z⟩)
    omega
theorem qn_0_ph (c : Nat) : qn_ph qn_0 c = 0 := rfl
theorem qn_nsg_0 {p : qp_T} {s : Nat} : qn_nsg p qn_0 s = 0 := by
  have h : ∀ m, qs_cnt (qn_sg p qn_0 s) m = 0 := by
    intro m
    induction m with
    | zero => rfl
    | succ m ih =>
      rw [qs_cnt_f, ih]
      intro z
      have := (qn_sg_iff.mp z).1
      rw [qn_0_ph] at this
      omega
  exact h _
theorem qn_A_0 {p : qp_T} : qn_A p 0 qn_0 := by
  refine ⟨fun c hc => ⟨Or.inl ⟨rfl, rfl⟩, fun k hk hj => Nat.zero_le _, fun k hk hb => ?_, fun k hk hl => ?_, fun e => ?_⟩, fun s hs => ?_, fun c hc h2 => ?_, fun c hc hh => Nat.zero_le _, fun s hs z => ?_⟩
  · exact ⟨Nat.le_refl _, Nat.zero_le _⟩
  · exact absurd hl (Nat.not_lt_zero k)
  · rw [qn_0_ph] at e; omega
  · rw [qn_nsg_0]; exact Nat.zero_le _
  · rw [qn_0_ph] at h2; omega
  · refine qn_pk_none (fun d _ w => ?_)
    have := (qn_wt_iff.mp w).1
    rw [qn_0_ph] at this
    omega
theorem qn_A_ps {p : qp_T} (ok : qp_ok p) : ∀ t, qn_A p t (qn_ps p t)
  | 0 => qn_A_0
  | t + 1 => qn_A_st ok (qn_A_ps ok t)
-- nobody has an event to come: all have left
theorem qn_all3 {p : qp_T} {t : Nat} {S : qn_S} (ok : qp_ok p) (K : qn_Ka p t S) (hse : qn_se p S) (hn : ∀ c, c < qp_m p → ¬ qn_hs S c = true) : ∀ c, c < qp_m p → qn_ph S c = 3 := by
  intro c hc
  have w := (K c hc).1
  have h1 := hn c hc
  rw [qn_hs_iff] at h1
  by_cases e : qn_ph S c = 1
  · exfalso
    have hcu := qn_cu4 ok K hc (Or.inl e)
    have hs := ((ok.2.2 c hc).2.2 _ hcu.1).1
    have hz : qn_nsg p S (qp_vs p (qn_v S c)) = 0 := by
      rcases Nat.eq_zero_or_pos (qn_nsg p S (qp_vs p (qn_v S c))) with z | z
      · exact z
      · exfalso
        have hall : ∀ d, d < qp_m p → qn_sg p S (qp_vs p (qn_v S c)) d = false := by
          intro d hd
          refine decide_eq_false (fun y => hn d hd (qn_hs_iff.mpr (Or.inr y.1)))
        have := qs_cnt_z (b := qn_sg p S (qp_vs p (qn_v S c))) (a := 0) (m := qp_m p) (Nat.zero_le _) (fun i _ hi => hall i hi)
        have e0 : qs_cnt (qn_sg p S (qp_vs p (qn_v S c))) 0 = 0 := rfl
        unfold qn_nsg at z
        omega
    have hsv := (ok.2.1 _ hs).1
    have hb := hse _ hs (by show qn_nsg p S (qp_vs p (qn_v S c)) < qp_sv p (qp_vs p (qn_v S c)); have : 1 ≤ qp_sv p (qp_vs p (qn_v S c)) := hsv; omega)
    exact qn_pk_n hb c hc (qn_wt_iff.mpr ⟨e, rfl⟩)
  · unfold qn_wf at w; omega
theorem qn_stay {p : qp_T} {t n : Nat} (hse : qn_se p (qn_ps p t)) (h : ∀ r c, t ≤ r → r < n → ¬ qn_fi p r (qn_ps p t) c = true) : ∀ r, t ≤ r → r ≤ n → qn_ps p r = qn_ps p t := by
  intro r
  induction r with
  | zero => intro h1 _; have : t = 0 := by omega
            rw [this]
  | succ r ih =>
    intro h1 h2
    by_cases e : t = r + 1
    · rw [e]
    · have i := ih (by omega) (by omega)
      show qn_st p r (qn_ps p r) = _
      rw [i]
      exact qn_quiet hse (fun c => h r c (by omega) (by omega))
-- once all have left nothing happens any more
theorem qn_done {p : qp_T} {t : Nat} (ok : qp_ok p) (h : ∀ c, c < qp_m p → qn_ph (qn_ps p t) c = 3) {r : Nat} (hr : t ≤ r) : qn_ps p r = qn_ps p t := by
  refine qn_stay (n := r) (qn_A_ps ok t).2.2.2.2 (fun q c _ _ z => ?_) r hr (Nat.le_refl r)
  obtain ⟨f1, f2, f3⟩ := qn_fi_iff.mp z
  have := h c f1
  rw [qn_hs_iff] at f2
  omega
theorem qn_tm_le {p : qp_T} {S : qn_S} (ok : qp_ok p) (u : qn_U p S) {c : Nat} (hc : c < qp_m p) (h : qn_hs S c = true) : qn_tm p S c ≤ 1540 := by
  rcases qn_hs_iff.mp h with e | e
  · rw [qn_tm_0 e]; have := (ok.2.2 c hc).1; omega
  · rw [qn_tm_2 e]; have := u c hc e; omega
theorem qn_gone {p : qp_T} (ok : qp_ok p) {t : Nat} (ht : 1541 ≤ t) : ∀ c, c < qp_m p → qn_ph (qn_ps p t) c = 3 := by
  obtain ⟨a1, a2, a3, a4, a5⟩ := qn_A_ps ok t
  refine qn_all3 ok a1 a5 (fun c hc hh => ?_)
  have h1 := a4 c hc hh
  have h2 := qn_tm_le ok a3 hc hh
  omega
-- what is found in the end
def qn_R (p : qp_T) : qn_S := qn_ps p 2000
theorem qn_R_of {p : qp_T} (ok : qp_ok p) {t : Nat} (ht : t ≤ 2000) (h : ∀ c, c < qp_m p → qn_ph (qn_ps p t) c = 3) : qn_ps p t = qn_R p := (qn_done ok h ht).symm
def qn_Rs (p : qp_T) (jt bg lv : Nat → Int32) : Prop :=
  ∀ c, c < qp_m p → lv c = nI (qn_L (qn_R p) c) ∧ ∀ k, k < qp_vc p c → jt (4 * c + k) = nI (qn_J (qn_R p) (4 * c + k)) ∧ bg (4 * c + k) = nI (qn_B (qn_R p) (4 * c + k))
-- times found so far
def qn_Tm (p : qp_T) (S : qn_S) (jt bg lv : Nat → Int32) : Prop :=
  ∀ c, c < qp_m p → (∀ k, k < 4 → qn_jd S c k → jt (4 * c + k) = nI (qn_J S (4 * c + k))) ∧ (∀ k, k < 4 → qn_bd S c k → bg (4 * c + k) = nI (qn_B S (4 * c + k))) ∧ (qn_ph S c = 3 → lv c = nI (qn_L S c))
theorem qn_Tm_R {p : qp_T} {jt bg lv : Nat → Int32} (ok : qp_ok p) {t : Nat} (ht : t ≤ 2000) (h : ∀ c, c < qp_m p → qn_ph (qn_ps p t) c = 3) (T : qn_Tm p (qn_ps p t) jt bg lv) : qn_Rs p jt bg lv := by
  intro c hc
  have hv := (ok.2.2 c hc).2.1
  obtain ⟨t1, t2, t3⟩ := T c hc
  have w := (qn_A_ps ok t).1 c hc |>.1
  have h3 := h c hc
  have hcu : qn_cu (qn_ps p t) c = qp_vc p c := by unfold qn_wf at w; omega
  rw [← qn_R_of ok ht h]
  refine ⟨t3 h3, fun k hk => ⟨t1 k (by omega) (Or.inl (by omega)), t2 k (by omega) (Or.inl (by omega))⟩⟩
theorem qn_R_f {p : qp_T} (ok : qp_ok p) {c : Nat} (hc : c < qp_m p) : qn_L (qn_R p) c ≤ 1540 ∧ ∀ k, k < qp_vc p c → qn_J (qn_R p) (4 * c + k) ≤ qn_B (qn_R p) (4 * c + k) ∧ qn_B (qn_R p) (4 * c + k) + qp_vn p (4 * c + k) ≤ qn_L (qn_R p) c := by
  have h3 := qn_gone ok (t := 2000) (by omega) c hc
  obtain ⟨k1, k2, k3, k4, k5⟩ := (qn_A_ps ok 2000).1 c hc
  have hv := (ok.2.2 c hc).2.1
  have hcu : qn_cu (qn_ps p 2000) c = qp_vc p c := by unfold qn_wf at k1; omega
  have e5 := k5 h3
  refine ⟨by have := e5.1; unfold qn_R; omega, fun k hk => ⟨(k3 k (by omega) (Or.inl (by omega))).1, e5.2 k (by omega) hk⟩⟩
end
section
def qq_va (p : qp_T) (i : Nat) : Prop := i / 4 < qp_m p ∧ i % 4 < qp_vc p (i / 4)
def qq_J (p : qp_T) (i : Nat) : Nat := qn_J (qn_R p) i
def qq_B (p : qp_T) (i : Nat) : Nat := qn_B (qn_R p) i
def qq_L (p : qp_T) (c : Nat) : Nat := qn_L (qn_R p) c
def qq_E (p : qp_T) (i : Nat) : Nat := qq_B p i + qp_vn p i
-- kind 0: is there, 1: waits, 2: is served
def qq_Do (p : qp_T) (s t kd i : Nat) : Prop := i / 4 < qp_m p ∧ i % 4 < qp_vc p (i / 4) ∧ qp_vs p i = s ∧ qq_J p i ≤ t ∧ t < qq_E p i ∧ (kd = 0 ∨ (kd = 1 ∧ t < qq_B p i) ∨ (kd = 2 ∧ qq_B p i ≤ t))
def qq_do (p : qp_T) (s t kd i : Nat) : Bool := decide (i / 4 < qp_m p ∧ i % 4 < qp_vc p (i / 4) ∧ qp_vs p i = s ∧ qq_J p i ≤ t ∧ t < qq_E p i ∧ (kd = 0 ∨ (kd = 1 ∧ t < qq_B p i) ∨ (kd = 2 ∧ qq_B p i ≤ t)))
theorem qq_do_iff {p : qp_T} {s t kd i : Nat} : qq_do p s t kd i = true ↔ qq_Do p s t kd i := by unfold qq_do qq_Do; exact decide_eq_true_iff
def qq_n (p : qp_T) (s t kd : Nat) : Nat := qs_cnt (qq_do p s t kd) 48
theorem qq_f {p : qp_T} (ok : qp_ok p) {i : Nat} (h : i / 4 < qp_m p) (hk : i % 4 < qp_vc p (i / 4)) : qq_J p i ≤ qq_B p i ∧ qq_E p i ≤ qq_L p (i / 4) ∧ qq_L p (i / 4) ≤ 1540 := by
  obtain ⟨h1, h2⟩ := qn_R_f ok h
  have h3 := h2 (i % 4) hk
  have e : 4 * (i / 4) + i % 4 = i := by omega
  rw [e] at h3
  exact ⟨h3.1, h3.2, h1⟩
def qq_mx (f : Nat → Nat) : Nat → Nat
  | 0 => 0
  | m + 1 => if qq_mx f m < f m then f m else qq_mx f m
theorem qq_mx_s (f : Nat → Nat) (m : Nat) : qq_mx f (m + 1) = if qq_mx f m < f m then f m else qq_mx f m := rfl
theorem qq_mx_ge {f : Nat → Nat} {c : Nat} : ∀ {m : Nat}, c < m → f c ≤ qq_mx f m
  | 0, h => absurd h (by omega)
  | m + 1, h => by
    rw [qq_mx_s]
    by_cases e : c = m
    · subst e; split <;> omega
    · have := qq_mx_ge (f := f) (c := c) (m := m) (by omega)
      split <;> omega
theorem qq_mx_le {f : Nat → Nat} {b : Nat} : ∀ {m : Nat}, (∀ c, c < m → f c ≤ b) → qq_mx f m ≤ b
  | 0, _ => Nat.zero_le _
  | m + 1, h => by
    rw [qq_mx_s]
    have h1 := qq_mx_le (f := f) (b := b) (m := m) (fun c hc => h c (by omega))
    have h2 := h m (by omega)
    split <;> omega
theorem qq_mx_z {f : Nat → Nat} {a : Nat} : ∀ {m : Nat}, a ≤ m → (∀ i, a ≤ i → i < m → f i = 0) → qq_mx f m = qq_mx f a
  | 0, h, _ => by
    have : a = 0 := by omega
    rw [this]
  | m + 1, h, hz => by
    by_cases e : a = m + 1
    · rw [e]
    · have h1 := qq_mx_z (f := f) (a := a) (m := m) (by omega) (fun i hi hm => hz i hi (by omega))
      rw [qq_mx_s, hz m (by omega) (by omega), if_neg (by omega), h1]
def qq_la (p : qp_T) : Nat := qq_mx (qq_L p) (qp_m p)
theorem qq_la_ge {p : qp_T} {c : Nat} (h : c < qp_m p) : qq_L p c ≤ qq_la p := qq_mx_ge h
theorem qq_la_le {p : qp_T} (ok : qp_ok p) : qq_la p ≤ 1540 := qq_mx_le (fun _ hc => (qn_R_f ok hc).1)
-- after the last one has left nobody is anywhere
theorem qq_n_z {p : qp_T} (ok : qp_ok p) {s t kd : Nat} (h : qq_la p ≤ t) : qq_n p s t kd = 0 := by
  have hz : ∀ i, 0 ≤ i → i < 48 → qq_do p s t kd i = false := by
    intro i _ _
    refine decide_eq_false (fun z => ?_)
    have h1 := qq_f ok z.1 z.2.1
    have h2 := qq_la_ge z.1
    have h3 := z.2.2.2.2.1
    omega
  exact qs_cnt_z (b := qq_do p s t kd) (Nat.zero_le 48) hz
theorem qq_n_add (p : qp_T) (s t : Nat) : qq_n p s t 0 = qq_n p s t 1 + qq_n p s t 2 := by
  refine qs_cnt_add (fun i _ => ?_)
  by_cases h0 : qq_Do p s t 0 i
  · rw [if_pos (qq_do_iff.mpr h0)]
    by_cases h1 : t < qq_B p i
    · have a1 : qq_Do p s t 1 i := ⟨h0.1, h0.2.1, h0.2.2.1, h0.2.2.2.1, h0.2.2.2.2.1, Or.inr (Or.inl ⟨rfl, h1⟩)⟩
      have a2 : ¬ qq_Do p s t 2 i := fun z => by have := z.2.2.2.2.2; omega
      rw [if_pos (qq_do_iff.mpr a1), if_neg (fun z => a2 (qq_do_iff.mp z))]
    · have a1 : ¬ qq_Do p s t 1 i := fun z => by have := z.2.2.2.2.2; omega
      have a2 : qq_Do p s t 2 i := ⟨h0.1, h0.2.1, h0.2.2.1, h0.2.2.2.1, h0.2.2.2.2.1, Or.inr (Or.inr ⟨rfl, by omega⟩)⟩
      rw [if_neg (fun z => a1 (qq_do_iff.mp z)), if_pos (qq_do_iff.mpr a2)]
  · have a1 : ¬ qq_Do p s t 1 i := fun z => h0 ⟨z.1, z.2.1, z.2.2.1, z.2.2.2.1, z.2.2.2.2.1, Or.inl rfl⟩
    have a2 : ¬ qq_Do p s t 2 i := fun z => h0 ⟨z.1, z.2.1, z.2.2.1, z.2.2.2.1, z.2.2.2.2.1, Or.inl rfl⟩
    rw [if_neg (fun z => h0 (qq_do_iff.mp z)), if_neg (fun z => a1 (qq_do_iff.mp z)), if_neg (fun z => a2 (qq_do_iff.mp z))]
-- a visit's stay at s before e
def qq_cl (p : qp_T) (s e i : Nat) : Nat := if i / 4 < qp_m p ∧ i % 4 < qp_vc p (i / 4) ∧ qp_vs p i = s ∧ qq_J p i < e then (if qq_E p i < e then qq_E p i else e) - qq_J p i else 0
theorem qq_cl_0 (p : qp_T) (s i : Nat) : qq_cl p s 0 i = 0 := by unfold qq_cl; rw [if_neg (fun z => by omega)]
theorem qq_cl_s {p : qp_T} (ok : qp_ok p) (s e i : Nat) : qq_cl p s (e + 1) i = qq_cl p s e i + (if qq_do p s e 0 i = true then 1 else 0) := by
  by_cases hv : i / 4 < qp_m p ∧ i % 4 < qp_vc p (i / 4) ∧ qp_vs p i = s
  · have hf := qq_f ok hv.1 hv.2.1
    have hJE : qq_J p i ≤ qq_E p i := by have := hf.1; unfold qq_E; omega
    by_cases a : qq_J p i ≤ e
    · have c1 : i / 4 < qp_m p ∧ i % 4 < qp_vc p (i / 4) ∧ qp_vs p i = s ∧ qq_J p i < e + 1 := ⟨hv.1, hv.2.1, hv.2.2, by omega⟩
      have g1 : qq_cl p s (e + 1) i = (if qq_E p i < e + 1 then qq_E p i else e + 1) - qq_J p i := by unfold qq_cl; rw [if_pos c1]
      have g2 : qq_cl p s e i = (if qq_E p i < e then qq_E p i else e) - qq_J p i := by
        unfold qq_cl
        by_cases b : qq_J p i < e
        · rw [if_pos ⟨hv.1, hv.2.1, hv.2.2, b⟩]
        · rw [if_neg (fun z => b z.2.2.2)]
          split <;> omega
      rw [g1, g2]
      by_cases b : e < qq_E p i
      · have d : qq_Do p s e 0 i := ⟨hv.1, hv.2.1, hv.2.2, a, b, Or.inl rfl⟩
        rw [if_pos (qq_do_iff.mpr d), if_neg (show ¬ qq_E p i < e by omega)]
        split <;> omega
      · have d : ¬ qq_Do p s e 0 i := fun z => b z.2.2.2.2.1
        rw [if_neg (fun z => d (qq_do_iff.mp z)), if_pos (show qq_E p i < e + 1 by omega)]
        split <;> omega
    · have d : ¬ qq_Do p s e 0 i := fun z => a z.2.2.2.1
      unfold qq_cl
      rw [if_neg (fun z => a (by have := z.2.2.2; omega)), if_neg (fun z => a (by have := z.2.2.2; omega)), if_neg (fun z => d (qq_do_iff.mp z))]
  · have d : ¬ qq_Do p s e 0 i := fun z => hv ⟨z.1, z.2.1, z.2.2.1⟩
    unfold qq_cl
    rw [if_neg (fun z => hv ⟨z.1, z.2.1, z.2.2.1⟩), if_neg (fun z => hv ⟨z.1, z.2.1, z.2.2.1⟩), if_neg (fun z => d (qq_do_iff.mp z))]
def qq_ar (p : qp_T) (s e : Nat) : Nat := qs_sum (fun t => qq_n p s t 0) e
theorem qq_ar_s (p : qp_T) (s e : Nat) : qq_ar p s (e + 1) = qq_ar p s e + qq_n p s e 0 := rfl
theorem qq_ar_cl {p : qp_T} (ok : qp_ok p) (s : Nat) : ∀ e, qs_sum (qq_cl p s e) 48 = qq_ar p s e
  | 0 => by
    have h := qs_sum_z (f := qq_cl p s 0) (a := 0) (m := 48) (Nat.zero_le _) (fun i _ _ => qq_cl_0 p s i)
    rw [h]; rfl
  | e + 1 => by
    rw [qq_ar_s, ← qq_ar_cl ok s e, qs_sum_add (f := qq_cl p s e) (g := fun i => if qq_do p s e 0 i = true then 1 else 0) (fun i _ => qq_cl_s ok s e i)]
    unfold qq_n
    rw [qs_cnt_sum]
theorem qq_ar_z {p : qp_T} (ok : qp_ok p) {s e : Nat} (h : qq_la p ≤ e) : qq_ar p s e = qq_ar p s (qq_la p) :=
  qs_sum_z h (fun _ hi _ => qq_n_z ok hi)
-- busy and longest
def qq_bs (p : qp_T) (s e : Nat) : Nat := qs_cnt (fun t => decide (0 < qq_n p s t 2)) e
theorem qq_bs_z {p : qp_T} (ok : qp_ok p) {s e : Nat} (h : qq_la p ≤ e) : qq_bs p s e = qq_bs p s (qq_la p) :=
  qs_cnt_z h (fun i hi _ => decide_eq_false (by rw [qq_n_z ok hi]; omega))
def qq_lo (p : qp_T) (s e : Nat) : Nat := qq_mx (fun t => qq_n p s t 1) e
theorem qq_lo_z {p : qp_T} (ok : qp_ok p) {s e : Nat} (h : qq_la p ≤ e) : qq_lo p s e = qq_lo p s (qq_la p) :=
  qq_mx_z h (fun _ hi _ => qq_n_z ok hi)
-- order: how many leave before c
def qq_bb (p : qp_T) (c b : Nat) : Bool := decide (qq_L p b < qq_L p c ∨ (qq_L p b = qq_L p c ∧ b < c))
def qq_be (p : qp_T) (c : Nat) : Nat := qs_cnt (qq_bb p c) (qp_m p)
theorem qq_cnt_all (m : Nat) : qs_cnt (fun _ => true) m = m := by
  induction m with
  | zero => rfl
  | succ m ih => rw [qs_cnt_t rfl, ih]
theorem qq_be_lt {p : qp_T} {c : Nat} (h : c < qp_m p) : qq_be p c < qp_m p := by
  have := qs_cnt_lt (b := qq_bb p c) (d := fun _ => true) (c := c) (m := qp_m p) (fun _ _ _ => rfl) h (decide_eq_false (by omega)) rfl
  rw [qq_cnt_all] at this
  exact this
theorem qq_be_l {p : qp_T} {c d : Nat} (hc : c < qp_m p) (h : qq_L p c < qq_L p d ∨ (qq_L p c = qq_L p d ∧ c < d)) : qq_be p c < qq_be p d := by
  refine qs_cnt_lt (c := c) (fun i _ hi => ?_) hc (decide_eq_false (by omega)) (decide_eq_true h)
  have := of_decide_eq_true hi
  exact decide_eq_true (by omega)
theorem qq_be_inj {p : qp_T} {c d : Nat} (hc : c < qp_m p) (hd : d < qp_m p) (h : qq_be p c = qq_be p d) : c = d := by
  by_cases e : c = d
  · exact e
  · exfalso
    by_cases l : qq_L p c < qq_L p d ∨ (qq_L p c = qq_L p d ∧ c < d)
    · have := qq_be_l hc l; omega
    · have := qq_be_l (p := p) (c := d) (d := c) hd (by omega); omega
-- by customer and visit
theorem qq_c_in {p : qp_T} {s t kd c : Nat} (hv : qp_vc p c ≤ 4) : qs_cnt (qq_do p s t kd) (4 * (c + 1)) = qs_cnt (qq_do p s t kd) (4 * c + qp_vc p c) := by
  refine qs_cnt_z (by omega) (fun i h1 h2 => decide_eq_false (fun z => ?_))
  have e : i / 4 = c := by omega
  have h := z.2.1
  rw [e] at h
  omega
theorem qq_c_out {p : qp_T} {s t kd : Nat} (hm : qp_m p ≤ 12) : qq_n p s t kd = qs_cnt (qq_do p s t kd) (4 * qp_m p) := by
  refine qs_cnt_z (by omega) (fun i h1 h2 => decide_eq_false (fun z => ?_))
  have h := z.1
  omega
theorem qq_s_in {p : qp_T} {s e c : Nat} (hv : qp_vc p c ≤ 4) : qs_sum (qq_cl p s e) (4 * (c + 1)) = qs_sum (qq_cl p s e) (4 * c + qp_vc p c) := by
  refine qs_sum_z (by omega) (fun i h1 h2 => ?_)
  unfold qq_cl
  rw [if_neg (fun z => ?_)]
  have e : i / 4 = c := by omega
  have h := z.2.1
  rw [e] at h
  omega
theorem qq_s_out {p : qp_T} {s e : Nat} (hm : qp_m p ≤ 12) : qs_sum (qq_cl p s e) 48 = qs_sum (qq_cl p s e) (4 * qp_m p) := by
  refine qs_sum_z (by omega) (fun i h1 h2 => ?_)
  unfold qq_cl
  rw [if_neg (fun z => ?_)]
  have h := z.1
  omega
theorem qq_do_v {p : qp_T} {s t kd c k : Nat} (hc : c < qp_m p) (hk : k < qp_vc p c) (hv : qp_vc p c ≤ 4) : qq_do p s t kd (4 * c + k) = true ↔ (qp_vs p (4 * c + k) = s ∧ qq_J p (4 * c + k) ≤ t ∧ t < qq_E p (4 * c + k) ∧ (kd = 0 ∨ (kd = 1 ∧ t < qq_B p (4 * c + k)) ∨ (kd = 2 ∧ qq_B p (4 * c + k) ≤ t))) := by
  rw [qq_do_iff]
  unfold qq_Do
  rw [qn_d4 (by omega), qn_m4 (by omega)]
  exact ⟨fun z => z.2.2, fun z => ⟨hc, hk, z⟩⟩
theorem qq_do_0 {p : qp_T} {s t c k : Nat} (hc : c < qp_m p) (hk : k < qp_vc p c) (hv : qp_vc p c ≤ 4) : qq_do p s t 0 (4 * c + k) = true ↔ (qp_vs p (4 * c + k) = s ∧ qq_J p (4 * c + k) ≤ t ∧ t < qq_E p (4 * c + k)) := by
  rw [qq_do_v hc hk hv]
  exact ⟨fun z => ⟨z.1, z.2.1, z.2.2.1⟩, fun z => ⟨z.1, z.2.1, z.2.2, Or.inl rfl⟩⟩
theorem qq_do_1 {p : qp_T} {s t c k : Nat} (hc : c < qp_m p) (hk : k < qp_vc p c) (hv : qp_vc p c ≤ 4) : qq_do p s t 1 (4 * c + k) = true ↔ (qp_vs p (4 * c + k) = s ∧ qq_J p (4 * c + k) ≤ t ∧ t < qq_B p (4 * c + k)) := by
  rw [qq_do_v hc hk hv]
  refine ⟨fun z => ⟨z.1, z.2.1, ?_⟩, fun z => ⟨z.1, z.2.1, ?_, Or.inr (Or.inl ⟨rfl, z.2.2⟩)⟩⟩
  · have := z.2.2.2; omega
  · have := z.2.2; unfold qq_E; omega
theorem qq_cl_v {p : qp_T} {s e c k : Nat} (hc : c < qp_m p) (hk : k < qp_vc p c) (hv : qp_vc p c ≤ 4) : qq_cl p s e (4 * c + k) = if qp_vs p (4 * c + k) = s ∧ qq_J p (4 * c + k) < e then (if qq_E p (4 * c + k) < e then qq_E p (4 * c + k) else e) - qq_J p (4 * c + k) else 0 := by
  unfold qq_cl
  rw [qn_d4 (by omega), qn_m4 (by omega)]
  by_cases h : qp_vs p (4 * c + k) = s ∧ qq_J p (4 * c + k) < e
  · rw [if_pos h, if_pos ⟨hc, hk, h⟩]
  · rw [if_neg h, if_neg (fun z => h z.2.2)]
theorem qq_n_lt {p : qp_T} {s t kd : Nat} : qq_n p s t kd ≤ 48 := qs_cnt_le _ _
end
section
theorem qn_mk_lt {S : qn_S} {c : Nat} (hc : c < 12) : qn_mk S c < 28 ∧ qn_mk S c % 16 = c := by
  unfold qn_mk
  split <;> omega
theorem qn_num_d {p : qp_T} {S : qn_S} {c : Nat} (hc : c < 12) : qn_num p S c / 32 = qn_tm p S c := by
  have := qn_mk_lt (S := S) hc
  unfold qn_num
  omega
theorem qn_num_m {p : qp_T} {S : qn_S} {c : Nat} (hc : c < 12) : qn_num p S c % 32 = qn_mk S c := by
  have := qn_mk_lt (S := S) hc
  unfold qn_num
  omega
theorem qn_num_inj {p : qp_T} {S R : qn_S} {c d : Nat} (hc : c < 12) (hd : d < 12) (h : qn_num p S c = qn_num p R d) : c = d := by
  have h1 := qn_num_m (p := p) (S := S) hc
  have h2 := qn_num_m (p := p) (S := R) hd
  have h3 := qn_mk_lt (S := S) hc
  have h4 := qn_mk_lt (S := R) hd
  rw [h] at h1
  omega
theorem qn_num_lt {p : qp_T} {S : qn_S} {c : Nat} (ok : qp_ok p) (u : qn_U p S) (hc : c < qp_m p) (h : qn_hs S c = true) : qn_num p S c < 49312 := by
  have h1 := qn_tm_le ok u hc h
  have h2 := ok.1
  have h3 := qn_mk_lt (S := S) (c := c) (by omega)
  unfold qn_num
  omega
theorem qn_P_lt {p : qp_T} {S : qn_S} (ok : qp_ok p) (u : qn_U p S) {x : Nat} (h : qn_P p S x) : x < 49312 := by
  obtain ⟨c, hc, hh, e⟩ := h
  rw [e]
  exact qn_num_lt ok u hc hh
theorem qn_hs1 {p : qp_T} {t c d : Nat} {S : qn_S} (h : qn_hs (qn_ev p t (qn_one c) S) d = true) : d ≠ c ∧ qn_hs S d = true := by
  by_cases e : d = c
  · subst e; rw [qn_evy_hs (qn_one_s d)] at h; exact absurd h (by decide)
  · rw [qn_evn_hs (qn_one_n e)] at h; exact ⟨e, h⟩
theorem qn_P_ev {p : qp_T} {t c : Nat} {S : qn_S} (ok : qp_ok p) (hc : c < qp_m p) : qn_P p (qn_ev p t (qn_one c) S) = fun e => qn_P p S e ∧ e ≠ qn_num p S c := by
  have hm := ok.1
  funext e
  refine propext ⟨fun z => ?_, fun z => ?_⟩
  · obtain ⟨d, hd, hh, he⟩ := z
    obtain ⟨hn, h0⟩ := qn_hs1 hh
    rw [qn_evn_num (qn_one_n hn)] at he
    refine ⟨⟨d, hd, h0, he⟩, fun y => hn ?_⟩
    rw [y] at he
    exact (qn_num_inj (by omega) (by omega) he).symm
  · obtain ⟨⟨d, hd, hh, he⟩, hne⟩ := z
    have hn : d ≠ c := fun y => hne (by rw [he, y])
    exact ⟨d, hd, by rw [qn_evn_hs (qn_one_n hn)]; exact hh, by rw [qn_evn_num (qn_one_n hn)]; exact he⟩
theorem qn_begn_num {p : qp_T} {t c d : Nat} {S : qn_S} (h : d ≠ c) (hk : qn_ph S d = 2 → qn_cu S d < 4) (hd : qn_hs S d = true) (hc : qn_cu S c < 4) : qn_num p (qn_beg t S c) d = qn_num p S d := by
  unfold qn_num qn_mk qn_tm
  rw [qn_begn_ph h]
  rcases qn_hs_iff.mp hd with e | e
  · rw [if_pos e, if_pos e, if_pos e]
  · rw [if_neg (by omega), if_neg (by omega), if_neg (by omega), qn_begn_en h (hk e) hc]
theorem qn_begy_num {p : qp_T} {t c : Nat} {S : qn_S} : qn_num p (qn_beg t S c) c = (t + qp_vn p (qn_v S c)) * 32 + c := by
  unfold qn_num qn_mk
  rw [qn_tm_2 qn_begy_ph, qn_begy_en, qn_begy_ph]
  rfl
theorem qn_P_beg {p : qp_T} {t r c : Nat} {S : qn_S} (ok : qp_ok p) (K : qn_Ka p r S) (hc : c < qp_m p) (h1 : qn_ph S c = 1) : qn_P p (qn_beg t S c) = (fun e => qn_P p S e ∨ e = (t + qp_vn p (qn_v S c)) * 32 + c) ∧ ¬ qn_P p S ((t + qp_vn p (qn_v S c)) * 32 + c) := by
  have hm := ok.1
  have hcu := qn_cu4 ok K hc (Or.inl h1)
  have hnh : ¬ qn_hs S c = true := by rw [qn_hs_iff]; omega
  constructor
  · funext e
    refine propext ⟨fun z => ?_, fun z => ?_⟩
    · obtain ⟨d, hd, hh, he⟩ := z
      by_cases f : d = c
      · subst f; rw [qn_begy_num] at he; exact Or.inr he
      · have hh' : qn_hs S d = true := by rw [qn_hs_iff] at hh ⊢; rw [qn_begn_ph f] at hh; exact hh
        rw [qn_begn_num f (fun y => (qn_cu4 ok K hd (Or.inr y)).2) hh' hcu.2] at he
        exact Or.inl ⟨d, hd, hh', he⟩
    · rcases z with ⟨d, hd, hh, he⟩ | z
      · have f : d ≠ c := fun y => hnh (by rw [← y]; exact hh)
        refine ⟨d, hd, ?_, ?_⟩
        · rw [qn_hs_iff] at hh ⊢; rw [qn_begn_ph f]; exact hh
        · rw [qn_begn_num f (fun y => (qn_cu4 ok K hd (Or.inr y)).2) hh hcu.2]; exact he
      · exact ⟨c, hc, qn_hs_iff.mpr (Or.inr qn_begy_ph), by rw [qn_begy_num]; exact z⟩
  · rintro ⟨d, hd, hh, he⟩
    rw [← qn_begy_num (p := p) (S := S)] at he
    have := qn_num_inj (by omega) (by omega) he
    exact hnh (by rw [this]; exact hh)
def qn_nh (p : qp_T) (S : qn_S) : Nat := qs_cnt (qn_hs S) (qp_m p)
theorem qn_nh_ev {p : qp_T} {t c : Nat} {S : qn_S} (hc : c < qp_m p) (hh : qn_hs S c = true) : qn_nh p S = qn_nh p (qn_ev p t (qn_one c) S) + 1 :=
  qs_cnt_set (c := c) (qn_evy_hs (qn_one_s c)) hh (fun i hi => (qn_evn_hs (qn_one_n hi)).symm) hc
theorem qn_nh_beg {p : qp_T} {t c : Nat} {S : qn_S} (hc : c < qp_m p) (h1 : qn_ph S c = 1) : qn_nh p (qn_beg t S c) = qn_nh p S + 1 :=
  qs_cnt_set (c := c) (decide_eq_false (by omega)) (qn_hs_iff.mpr (Or.inr qn_begy_ph)) (fun i hi => by unfold qn_hs; rw [qn_begn_ph hi]) hc
theorem qn_nh_no {p : qp_T} {S : qn_S} (h : qn_nh p S = 0) : ∀ c, c < qp_m p → ¬ qn_hs S c = true := fun c hc z => by
  have := qs_cnt_0 h c hc
  rw [z] at this
  exact absurd this (by decide)
theorem qn_nh_ex {p : qp_T} {S : qn_S} (h : 0 < qn_nh p S) : ∃ x, qn_P p S x := by
  by_cases ex : ∃ c, c < qp_m p ∧ qn_hs S c = true
  · obtain ⟨c, hc, hh⟩ := ex
    exact ⟨_, c, hc, hh, rfl⟩
  · exfalso
    have hz : ∀ i, 0 ≤ i → i < qp_m p → qn_hs S i = false := fun i _ hi => Bool.eq_false_iff.mpr (fun z => ex ⟨i, hi, z⟩)
    have h1 : qs_cnt (qn_hs S) (qp_m p) = qs_cnt (qn_hs S) 0 := qs_cnt_z (Nat.zero_le _) hz
    have h2 : qs_cnt (qn_hs S) 0 = 0 := rfl
    unfold qn_nh at h
    omega
-- the first event to come
theorem qn_first {p : qp_T} {S : qn_S} (h : 0 < qn_nh p S) : ∃ c, c < qp_m p ∧ qn_hs S c = true ∧ ∀ x, qn_P p S x → qn_num p S c ≤ x := by
  obtain ⟨k, hk, hl⟩ := pk_least (qn_P p S) (qn_nh_ex h)
  obtain ⟨c, hc, hh, e⟩ := hk
  refine ⟨c, hc, hh, fun x hx => ?_⟩
  rw [← e]
  rcases Nat.lt_or_ge x k with g | g
  · exact absurd hx (hl x g)
  · exact g
theorem qn_nh_le {p : qp_T} {S : qn_S} : qn_nh p S ≤ qp_m p := qs_cnt_le _ _
-- the times found so far, when c has an event
theorem qn_Tm_ev {p : qp_T} {t c : Nat} {S : qn_S} {jt bg lv jt' bg' lv' : Nat → Int32} (hc : c < qp_m p) (w : qn_wf p S c) (hh : qn_hs S c = true) (hv : qp_vc p c ≤ 4) (T : qn_Tm p S jt bg lv)
    (h1 : ∀ d k, d < qp_m p → k < 4 → ¬ (d = c ∧ qn_nk S c ≠ qp_vc p c ∧ k = qn_nk S c) → jt' (4 * d + k) = jt (4 * d + k))
    (h2 : qn_nk S c ≠ qp_vc p c → jt' (4 * c + qn_nk S c) = nI t)
    (h3 : ∀ d k, d < qp_m p → k < 4 → ¬ (d = c ∧ qn_nk S c ≠ qp_vc p c ∧ k = qn_nk S c) → bg' (4 * d + k) = bg (4 * d + k))
    (h4 : ∀ d, d < qp_m p → ¬ (d = c ∧ qn_nk S c = qp_vc p c) → lv' d = lv d)
    (h5 : qn_nk S c = qp_vc p c → lv' c = nI t) : qn_Tm p (qn_ev p t (qn_one c) S) jt' bg' lv' := by
  intro d hd
  obtain ⟨t1, t2, t3⟩ := T d hd
  by_cases e : d = c
  · subst e
    have o := qn_one_s d
    have hn := qn_nk_le w hh
    have hb : ∀ k, k < qn_nk S d → qn_bd S d k := by
      intro k hk
      rcases qn_hs_iff.mp hh with f | f
      · rw [qn_nk_0 f] at hk; unfold qn_wf at w; omega
      · rw [qn_nk_2 f] at hk; unfold qn_bd; omega
    have hj : ∀ k, k < qn_nk S d → qn_jd S d k := by
      intro k hk
      have := hb k hk
      unfold qn_bd at this
      unfold qn_jd
      omega
    refine ⟨fun k hk hj' => ?_, fun k hk hb' => ?_, fun h3' => ?_⟩
    · unfold qn_jd at hj'
      rw [qn_evy_cu o, qn_evy_ph o] at hj'
      rw [qn_evy_J hk o]
      by_cases f : k < qn_nk S d
      · rw [if_neg (by omega), h1 d k hd hk (by omega)]
        exact t1 k hk (hj k f)
      · by_cases g : qn_nk S d = qp_vc p d
        · rw [if_pos g] at hj'; omega
        · have ek : k = qn_nk S d := by omega
          rw [if_pos ⟨g, ek⟩, ek]
          exact h2 g
    · unfold qn_bd at hb'
      rw [qn_evy_cu o, qn_evy_ph o] at hb'
      have f : k < qn_nk S d := by
        by_cases g : qn_nk S d = qp_vc p d
        · rw [if_pos g] at hb'; omega
        · rw [if_neg g] at hb'; omega
      rw [qn_ev_B, h3 d k hd hk (by omega)]
      exact t2 k hk (hb k f)
    · rw [qn_evy_ph o] at h3'
      by_cases g : qn_nk S d = qp_vc p d
      · rw [qn_ev_L, if_pos ⟨o, g⟩]; exact h5 g
      · rw [if_neg g] at h3'; omega
  · have o := qn_one_n e
    refine ⟨fun k hk hj' => ?_, fun k hk hb' => ?_, fun h3' => ?_⟩
    · unfold qn_jd at hj'
      rw [qn_evn_cu o, qn_evn_ph o] at hj'
      rw [qn_evn_J hk o, h1 d k hd hk (fun z => e z.1)]
      exact t1 k hk hj'
    · unfold qn_bd at hb'
      rw [qn_evn_cu o, qn_evn_ph o] at hb'
      rw [qn_ev_B, h3 d k hd hk (fun z => e z.1)]
      exact t2 k hk hb'
    · rw [qn_evn_ph o] at h3'
      rw [qn_evn_L o, h4 d hd (fun z => e z.1)]
      exact t3 h3'
theorem qn_Tm_beg {p : qp_T} {t r c : Nat} {S : qn_S} {jt bg lv : Nat → Int32} (ok : qp_ok p) (K : qn_Ka p r S) (hc : c < qp_m p) (h1 : qn_ph S c = 1) (T : qn_Tm p S jt bg lv) : qn_Tm p (qn_beg t S c) jt (upd bg (qn_v S c) (nI t)) lv := by
  have hcu := qn_cu4 ok K hc (Or.inl h1)
  intro d hd
  obtain ⟨t1, t2, t3⟩ := T d hd
  by_cases e : d = c
  · subst e
    refine ⟨fun k hk hj' => ?_, fun k hk hb' => ?_, fun h3' => ?_⟩
    · rw [qn_beg_J]
      refine t1 k hk ?_
      unfold qn_jd at hj' ⊢
      rw [qn_beg_cu] at hj'
      omega
    · unfold qn_bd at hb'
      rw [qn_beg_cu] at hb'
      by_cases f : k < qn_cu S d
      · have hne : 4 * d + k ≠ qn_v S d := by unfold qn_v; omega
        rw [pk_un hne, qn_beg_B, qn_un hne]
        exact t2 k hk (Or.inl f)
      · have he : 4 * d + k = qn_v S d := by unfold qn_v; omega
        rw [he, pk_us, qn_beg_B, qn_us]
    · rw [qn_begy_ph] at h3'; omega
  · refine ⟨fun k hk hj' => ?_, fun k hk hb' => ?_, fun h3' => ?_⟩
    · rw [qn_beg_J]
      refine t1 k hk ?_
      unfold qn_jd at hj' ⊢
      rw [qn_beg_cu, qn_begn_ph e] at hj'
      exact hj'
    · unfold qn_bd at hb'
      rw [qn_beg_cu, qn_begn_ph e] at hb'
      have hne : 4 * d + k ≠ qn_v S c := by unfold qn_v; omega
      rw [pk_un hne, qn_beg_B, qn_un hne]
      exact t2 k hk hb'
    · rw [qn_begn_ph e] at h3'
      rw [qn_beg_L]
      exact t3 h3'
end
section
theorem qn_nsg_ev1 {p : qp_T} {t c s : Nat} {S : qn_S} (hc : c < qp_m p) (hh : qn_hs S c = true) : qn_nsg p (qn_ev p t (qn_one c) S) s + (if qn_ph S c = 2 ∧ qp_vs p (qn_v S c) = s then 1 else 0) = qn_nsg p S s := by
  have hn : ∀ i, i ≠ c → qn_sg p S s i = qn_sg p (qn_ev p t (qn_one c) S) s i := fun i hi => by
    unfold qn_sg; rw [qn_evn_ph (qn_one_n hi), qn_evn_v (qn_one_n hi)]
  have hy : qn_sg p (qn_ev p t (qn_one c) S) s c = false := by
    refine Bool.eq_false_iff.mpr (fun z => ?_)
    exact (qn_sg_ev z).1 (qn_one_s c)
  by_cases e : qn_ph S c = 2 ∧ qp_vs p (qn_v S c) = s
  · rw [if_pos e]
    exact (qs_cnt_set (c := c) hy (qn_sg_iff.mpr e) hn hc).symm
  · rw [if_neg e]
    refine (qs_cnt_ext (fun i _ => ?_)).symm
    by_cases f : i = c
    · subst f; rw [hy]; exact decide_eq_false e
    · exact hn i f
def qx_R (p : qp_T) (S : qn_S) (cv wa fr jt bg lv : Nat → Int32) : Prop :=
  (∀ c, c < qp_m p → cv c = nI (qn_v S c)) ∧ (∀ c, c < qp_m p → wa c = if qn_ph S c = 1 then nI (qp_vs p (qn_v S c)) else -1) ∧
  (∀ s, s < 4 → ∃ f, fr s = nI f ∧ f + qn_nsg p S s = qp_sv p s) ∧ qn_Tm p S jt bg lv
theorem qx_R_ev {p : qp_T} {t c : Nat} {S : qn_S} {cv wa fr jt bg lv cv' wa' fr' jt' lv' : Nat → Int32} (hc : c < qp_m p) (w : qn_wf p S c) (hh : qn_hs S c = true) (hv : qp_vc p c ≤ 4) (R : qx_R p S cv wa fr jt bg lv)
    (hcv : ∀ d, d < qp_m p → cv' d = if d = c then nI (4 * c + qn_nk S c) else cv d)
    (hwa : ∀ d, d < qp_m p → wa' d = if d = c ∧ qn_nk S c ≠ qp_vc p c then nI (qp_vs p (4 * c + qn_nk S c)) else wa d)
    (hfr : ∀ s, s < 4 → fr' s = if qn_ph S c = 2 ∧ qp_vs p (qn_v S c) = s then fr s + 1 else fr s)
    (h1 : ∀ d k, d < qp_m p → k < 4 → ¬ (d = c ∧ qn_nk S c ≠ qp_vc p c ∧ k = qn_nk S c) → jt' (4 * d + k) = jt (4 * d + k))
    (h2 : qn_nk S c ≠ qp_vc p c → jt' (4 * c + qn_nk S c) = nI t)
    (h4 : ∀ d, d < qp_m p → ¬ (d = c ∧ qn_nk S c = qp_vc p c) → lv' d = lv d)
    (h5 : qn_nk S c = qp_vc p c → lv' c = nI t) : qx_R p (qn_ev p t (qn_one c) S) cv' wa' fr' jt' bg lv' := by
  obtain ⟨r1, r2, r3, r4⟩ := R
  refine ⟨fun d hd => ?_, fun d hd => ?_, fun s hs => ?_, qn_Tm_ev hc w hh hv r4 h1 h2 (fun _ _ _ _ _ => rfl) h4 h5⟩
  · rw [hcv d hd]
    by_cases e : d = c
    · subst e; rw [if_pos rfl]; unfold qn_v; rw [qn_evy_cu (qn_one_s d)]
    · rw [if_neg e, qn_evn_v (qn_one_n e)]; exact r1 d hd
  · rw [hwa d hd]
    by_cases e : d = c
    · subst e
      rw [qn_evy_ph (qn_one_s d)]
      by_cases g : qn_nk S d = qp_vc p d
      · have hp : ¬ qn_ph S d = 1 := by rw [qn_hs_iff] at hh; omega
        rw [if_neg (fun z => z.2 g), if_pos g, r2 d hd, if_neg hp, if_neg (by decide)]
      · rw [if_pos ⟨rfl, g⟩, if_neg g, if_pos rfl]; unfold qn_v; rw [qn_evy_cu (qn_one_s d)]
    · rw [if_neg (fun z => e z.1), qn_evn_ph (qn_one_n e), qn_evn_v (qn_one_n e)]; exact r2 d hd
  · obtain ⟨f, hf, he⟩ := r3 s hs
    have hn := qn_nsg_ev1 (t := t) (s := s) hc hh
    rw [hfr s hs]
    by_cases g : qn_ph S c = 2 ∧ qp_vs p (qn_v S c) = s
    · rw [if_pos g] at hn
      rw [if_pos g]
      exact ⟨f + 1, by rw [hf, nI_1], by omega⟩
    · rw [if_neg g] at hn
      rw [if_neg g]
      exact ⟨f, hf, by omega⟩
theorem qx_R_beg {p : qp_T} {t r c s : Nat} {S : qn_S} {cv wa fr jt bg lv : Nat → Int32} {x : Int32} (ok : qp_ok p) (K : qn_Ka p r S) (hc : c < qp_m p) (h1 : qn_ph S c = 1) (hs : qp_vs p (qn_v S c) = s) (R : qx_R p S cv wa fr jt bg lv)
    (hx : ∀ f, fr s = nI (f + 1) → x = nI f) (hlt : qn_nsg p S s < qp_sv p s) : qx_R p (qn_beg t S c) cv (upd wa c (-1)) (upd fr s x) jt (upd bg (qn_v S c) (nI t)) lv := by
  obtain ⟨r1, r2, r3, r4⟩ := R
  refine ⟨fun d hd => ?_, fun d hd => ?_, fun q hq => ?_, qn_Tm_beg ok K hc h1 r4⟩
  · rw [qn_beg_v]; exact r1 d hd
  · by_cases e : d = c
    · subst e; rw [pk_us, qn_begy_ph, if_neg (by decide)]
    · rw [pk_un e, qn_begn_ph e, qn_beg_v]; exact r2 d hd
  · obtain ⟨f, hf, he⟩ := r3 q hq
    by_cases e : q = s
    · subst e
      rw [pk_us, qn_nsg_beg hc h1 hs]
      obtain ⟨g, rfl⟩ : ∃ g, f = g + 1 := ⟨f - 1, by omega⟩
      exact ⟨g, hx g hf, by omega⟩
    · rw [pk_un e, qn_nsg_begn h1 (fun z => e (by rw [← z, hs]))]
      exact ⟨f, hf, he⟩
-- the store of events, by engine
def qx_St (e n : Nat) (ev cal : Nat → Int32) (P : Nat → Prop) : Prop :=
  (e < 3 → ∃ A : Nat → Nat, (∀ i, i < n → ev i = nI (A i)) ∧ qs_St A n P ∧ (e = 1 → qs_fall A n) ∧ (e = 2 → qs_hp A n)) ∧ (3 ≤ e → qs_Ca cal P) ∧ ∀ x, P x → x < 49312
-- waiting and rule, as X asks them
theorem qx_wt {p : qp_T} {S : qn_S} {r c s : Nat} (ok : qp_ok p) (K : qn_Ka p r S) (hc : c < qp_m p) (hs : s < 4) {x : Int32} (hx : x = if qn_ph S c = 1 then nI (qp_vs p (qn_v S c)) else -1) : x = nI s ↔ qn_wt p S s c = true := by
  rw [qn_wt_iff, hx]
  by_cases e : qn_ph S c = 1
  · rw [if_pos e]
    have hcu := qn_cu4 ok K hc (Or.inl e)
    have hv : qp_vs p (qn_v S c) < 4 := ((ok.2.2 c hc).2.2 _ hcu.1).1
    rw [nI_eq (by omega) (by omega)]
    exact ⟨fun z => ⟨e, z⟩, fun z => z.2⟩
  · rw [if_neg e]
    refine ⟨fun z => ?_, fun z => absurd z.1 e⟩
    exfalso
    have h : ∀ s, s < 4 → ¬ (-1 : Int32) = nI s := by decide +kernel
    exact h s hs z
theorem qx_jt {p : qp_T} {S : qn_S} {r c s : Nat} {jt bg lv : Nat → Int32} (ok : qp_ok p) (K : qn_Ka p r S) (T : qn_Tm p S jt bg lv) (hc : c < qp_m p) (hw : qn_wt p S s c = true) : jt (qn_v S c) = nI (qn_J S (qn_v S c)) ∧ qn_J S (qn_v S c) ≤ r ∧ qn_v S c < 48 ∧ qp_vn p (qn_v S c) ≤ 30 ∧ 1 ≤ qp_vn p (qn_v S c) ∧ qp_vs p (qn_v S c) = s := by
  rw [qn_wt_iff] at hw
  have hcu := qn_cu4 ok K hc (Or.inl hw.1)
  have h1 := (T c hc).1 (qn_cu S c) hcu.2 (Or.inr ⟨rfl, Or.inl hw.1⟩)
  have h2 := (K c hc).2.1 (qn_cu S c) hcu.2 (Or.inr ⟨rfl, Or.inl hw.1⟩)
  have h3 := (ok.2.2 c hc).2.2 _ hcu.1
  have hm := ok.1
  refine ⟨h1, h2, by unfold qn_v; omega, h3.2.2, h3.2.1, hw.2⟩
def qn_enc : Option Nat → Int32
  | none => -1
  | some c => nI c
theorem qn_enc_n : ∀ c, c < 12 → ¬ nI c = (-1 : Int32) := by decide +kernel
theorem qn_enc_l : ∀ c, c < 12 → ¬ nI c < (0 : Int32) := by decide +kernel
end
section
def qp_SV (p : qp_T) : Nat → Int32 := fun i => nI (qp_sv p i)
def qp_RU (p : qp_T) : Nat → Int32 := fun i => nI (qp_ru p i)
def qp_AR (p : qp_T) : Nat → Int32 := fun i => nI (qp_ar p i)
def qp_VC (p : qp_T) : Nat → Int32 := fun i => nI (qp_vc p i)
def qp_VS (p : qp_T) : Nat → Int32 := fun i => nI (qp_vs p i)
def qp_VN (p : qp_T) : Nat → Int32 := fun i => nI (qp_vn p i)
theorem qp_SVe (p : qp_T) (i : Nat) : qp_SV p i = nI (qp_sv p i) := rfl
theorem qp_RUe (p : qp_T) (i : Nat) : qp_RU p i = nI (qp_ru p i) := rfl
theorem qp_ARe (p : qp_T) (i : Nat) : qp_AR p i = nI (qp_ar p i) := rfl
theorem qp_VCe (p : qp_T) (i : Nat) : qp_VC p i = nI (qp_vc p i) := rfl
theorem qp_VSe (p : qp_T) (i : Nat) : qp_VS p i = nI (qp_vs p i) := rfl
theorem qp_VNe (p : qp_T) (i : Nat) : qp_VN p i = nI (qp_vn p i) := rfl
theorem qp_upd (f : Nat → Nat) (k x : Nat) : upd (fun i => nI (f i)) k (nI x) = fun i => nI (qn_u f k x i) := by
  funext i
  by_cases e : i = k
  · subst e; rw [pk_us, qn_us]
  · rw [pk_un e, qn_un e]
def qp_wst (p : qp_T) (s n r : Nat) : qp_T := (qp_m p, qn_u (qp_sv p) s n, qn_u (qp_ru p) s r, qp_ar p, qp_vc p, qp_vs p, qp_vn p)
def qp_war (p : qp_T) (t : Nat) : qp_T := (qp_m p + 1, qp_sv p, qp_ru p, qn_u (qp_ar p) (qp_m p) t, qn_u (qp_vc p) (qp_m p) 0, qp_vs p, qp_vn p)
def qp_wvi (p : qp_T) (c s n : Nat) : qp_T := (qp_m p, qp_sv p, qp_ru p, qp_ar p, qn_u (qp_vc p) c (qp_vc p c + 1), qn_u (qp_vs p) (4 * c + qp_vc p c) s, qn_u (qp_vn p) (4 * c + qp_vc p c) n)
def qp_wdr (p : qp_T) : qp_T := (qp_m p - 1, qp_sv p, qp_ru p, qp_ar p, qp_vc p, qp_vs p, qp_vn p)
def qp_p0 : qp_T := (0, fun i => if i < 4 then 1 else 0, fun _ => 0, fun _ => 0, fun _ => 0, fun _ => 0, fun _ => 0)
theorem qp_ok0 : qp_ok qp_p0 := by
  refine ⟨Nat.zero_le _, fun s hs => ?_, fun c hc => absurd hc (Nat.not_lt_zero c)⟩
  have e : qp_sv qp_p0 s = 1 := if_pos hs
  rw [e]
  exact ⟨by omega, by omega, Nat.zero_le _⟩
theorem qp_ok_wst {p : qp_T} {s n r : Nat} (ok : qp_ok p) (h1 : 1 ≤ n) (h3 : n ≤ 3) (hr : r ≤ 2) : qp_ok (qp_wst p s n r) := by
  refine ⟨ok.1, fun q hq => ?_, fun c hc => ok.2.2 c hc⟩
  have h := ok.2.1 q hq
  show 1 ≤ qn_u (qp_sv p) s n q ∧ qn_u (qp_sv p) s n q ≤ 3 ∧ qn_u (qp_ru p) s r q ≤ 2
  by_cases e : q = s
  · subst e; rw [qn_us, qn_us]; exact ⟨h1, h3, hr⟩
  · rw [qn_un e, qn_un e]; exact h
theorem qp_ok_war {p : qp_T} {t : Nat} (ok : qp_ok p) (hm : qp_m p < 12) (ht : t ≤ 100) : qp_ok (qp_war p t) := by
  refine ⟨by show qp_m p + 1 ≤ 12; omega, fun q hq => ok.2.1 q hq, fun c hc => ?_⟩
  have hc' : c < qp_m p + 1 := hc
  show qn_u (qp_ar p) (qp_m p) t c ≤ 100 ∧ qn_u (qp_vc p) (qp_m p) 0 c ≤ 4 ∧ ∀ k, k < qn_u (qp_vc p) (qp_m p) 0 c → qp_vs p (4 * c + k) < 4 ∧ 1 ≤ qp_vn p (4 * c + k) ∧ qp_vn p (4 * c + k) ≤ 30
  by_cases e : c = qp_m p
  · rw [e, qn_us, qn_us]; exact ⟨ht, by omega, fun k hk => absurd hk (Nat.not_lt_zero k)⟩
  · rw [qn_un e, qn_un e]; exact ok.2.2 c (by omega)
theorem qp_ok_wvi {p : qp_T} {c s n : Nat} (ok : qp_ok p) (hc : c < qp_m p) (hv : qp_vc p c < 4) (hs : s < 4) (h1 : 1 ≤ n) (h3 : n ≤ 30) : qp_ok (qp_wvi p c s n) := by
  refine ⟨ok.1, fun q hq => ok.2.1 q hq, fun d hd => ?_⟩
  have h := ok.2.2 d hd
  show qp_ar p d ≤ 100 ∧ qn_u (qp_vc p) c (qp_vc p c + 1) d ≤ 4 ∧ ∀ k, k < qn_u (qp_vc p) c (qp_vc p c + 1) d → qn_u (qp_vs p) (4 * c + qp_vc p c) s (4 * d + k) < 4 ∧ 1 ≤ qn_u (qp_vn p) (4 * c + qp_vc p c) n (4 * d + k) ∧ qn_u (qp_vn p) (4 * c + qp_vc p c) n (4 * d + k) ≤ 30
  by_cases e : d = c
  · subst e
    rw [qn_us]
    refine ⟨h.1, by omega, fun k hk => ?_⟩
    by_cases f : k = qp_vc p d
    · rw [f, qn_us, qn_us]; exact ⟨hs, h1, h3⟩
    · rw [qn_un (by omega), qn_un (by omega)]; exact h.2.2 k (by omega)
  · rw [qn_un e]
    refine ⟨h.1, h.2.1, fun k hk => ?_⟩
    have := h.2.1
    rw [qn_un (by omega), qn_un (by omega)]; exact h.2.2 k hk
theorem qp_ok_wdr {p : qp_T} (ok : qp_ok p) : qp_ok (qp_wdr p) := by
  refine ⟨by show qp_m p - 1 ≤ 12; have := ok.1; omega, fun q hq => ok.2.1 q hq, fun c hc => ok.2.2 c ?_⟩
  have hc' : c < qp_m p - 1 := hc
  omega
end
section
-- X: a run's start
theorem qx_R0 {p : qp_T} {cv wa fr jt bg lv : Nat → Int32} (h1 : ∀ c, c < qp_m p → cv c = nI (4 * c)) (h2 : ∀ c, c < qp_m p → wa c = -1) (h3 : ∀ s, s < 4 → fr s = nI (qp_sv p s)) : qx_R p qn_0 cv wa fr jt bg lv := by
  refine ⟨fun c hc => h1 c hc, fun c hc => ?_, fun s hs => ⟨qp_sv p s, h3 s hs, by rw [qn_nsg_0]; rfl⟩, fun c hc => ⟨fun k hk hj => ?_, fun k hk hb => ?_, fun e => ?_⟩⟩
  · rw [h2 c hc, qn_0_ph]; rfl
  · unfold qn_jd at hj; rw [qn_0_ph] at hj; have e : qn_cu qn_0 c = 0 := rfl; rw [e] at hj; omega
  · unfold qn_bd at hb; rw [qn_0_ph] at hb; have e : qn_cu qn_0 c = 0 := rfl; rw [e] at hb; omega
  · rw [qn_0_ph] at e; omega
def qx_Pi (p : qp_T) (i : Nat) : Nat → Prop := fun e => ∃ c, c < i ∧ e = qp_ar p c * 32 + 16 + c
theorem qx_Pi_0 {p : qp_T} (e : Nat) : ¬ qx_Pi p 0 e := fun z => by obtain ⟨c, hc, _⟩ := z; omega
theorem qx_Pi_s {p : qp_T} {i : Nat} (hi : i < 12) : qx_Pi p (i + 1) = (fun e => qx_Pi p i e ∨ e = qp_ar p i * 32 + 16 + i) ∧ ¬ qx_Pi p i (qp_ar p i * 32 + 16 + i) := by
  constructor
  · funext e
    refine propext ⟨fun z => ?_, fun z => ?_⟩
    · obtain ⟨c, hc, he⟩ := z
      by_cases f : c = i
      · subst f; exact Or.inr he
      · exact Or.inl ⟨c, by omega, he⟩
    · rcases z with ⟨c, hc, he⟩ | z
      · exact ⟨c, by omega, he⟩
      · exact ⟨i, by omega, z⟩
  · rintro ⟨c, hc, he⟩
    omega
theorem qx_Pi_m {p : qp_T} : qx_Pi p (qp_m p) = qn_P p qn_0 := by
  have hn : ∀ c, qn_num p qn_0 c = qp_ar p c * 32 + 16 + c := fun c => by
    unfold qn_num qn_mk
    rw [qn_tm_0 (qn_0_ph c), qn_0_ph, if_pos rfl]
    omega
  funext e
  refine propext ⟨fun z => ?_, fun z => ?_⟩
  · obtain ⟨c, hc, he⟩ := z
    exact ⟨c, hc, qn_hs_iff.mpr (Or.inl rfl), by rw [hn]; exact he⟩
  · obtain ⟨c, hc, _, he⟩ := z
    exact ⟨c, hc, by rw [← hn]; exact he⟩
theorem qx_Pi_lt {p : qp_T} (ok : qp_ok p) {i : Nat} (hi : i ≤ qp_m p) : ∀ x, qx_Pi p i x → x < 49312 := by
  rintro x ⟨c, hc, he⟩
  have h1 := (ok.2.2 c (by omega)).1
  have h2 := ok.1
  omega
theorem qn_nh_0 {p : qp_T} : qn_nh p qn_0 = qp_m p := by
  have h : qn_nh p qn_0 = qs_cnt (fun _ => true) (qp_m p) := qs_cnt_ext (fun c _ => qn_hs_iff.mpr (Or.inl rfl))
  rw [h, qq_cnt_all]
-- the reference
def qy_nw (S : qn_S) (c : Nat) : Nat := if qn_ph S c = 0 then 4 else if qn_ph S c = 3 then 5 else qn_cu S c
theorem qy_nw_0 {S : qn_S} {c : Nat} (h : qn_ph S c = 0) : qy_nw S c = 4 := by unfold qy_nw; rw [if_pos h]
theorem qy_nw_3 {S : qn_S} {c : Nat} (h : qn_ph S c = 3) : qy_nw S c = 5 := by unfold qy_nw; rw [if_neg (by omega), if_pos h]
theorem qy_nw_i {S : qn_S} {c : Nat} (h : qn_ph S c = 1 ∨ qn_ph S c = 2) : qy_nw S c = qn_cu S c := by unfold qy_nw; rw [if_neg (by omega), if_neg (by omega)]
def qy_R (p : qp_T) (S : qn_S) (nw jt bg lv : Nat → Int32) : Prop :=
  (∀ c, c < qp_m p → nw c = nI (qy_nw S c)) ∧ (∀ c, c < qp_m p → qn_ph S c = 1 → bg (qn_v S c) = -1) ∧ qn_Tm p S jt bg lv
theorem qy_R0 {p : qp_T} {nw jt bg lv : Nat → Int32} (h1 : ∀ c, c < qp_m p → nw c = nI 4) : qy_R p qn_0 nw jt bg lv := by
  refine ⟨fun c hc => h1 c hc, fun c hc h => ?_, fun c hc => ⟨fun k hk hj => ?_, fun k hk hb => ?_, fun e => ?_⟩⟩
  · rw [qn_0_ph] at h; omega
  · unfold qn_jd at hj; rw [qn_0_ph] at hj; have e : qn_cu qn_0 c = 0 := rfl; rw [e] at hj; omega
  · unfold qn_bd at hb; rw [qn_0_ph] at hb; have e : qn_cu qn_0 c = 0 := rfl; rw [e] at hb; omega
  · rw [qn_0_ph] at e; omega
-- one leaves for good
theorem qy_R_lv {p : qp_T} {t r c : Nat} {S : qn_S} {nw jt bg lv : Nat → Int32} (ok : qp_ok p) (K : qn_Ka p r S) (hc : c < qp_m p) (hh : qn_hs S c = true) (hn : qn_nk S c = qp_vc p c) (R : qy_R p S nw jt bg lv) : qy_R p (qn_ev p t (qn_one c) S) (upd nw c (nI 5)) jt bg (upd lv c (nI t)) := by
  obtain ⟨r1, r2, r3⟩ := R
  refine ⟨fun d hd => ?_, fun d hd h => ?_, qn_Tm_ev hc (K c hc).1 hh (ok.2.2 c hc).2.1 r3 (fun _ _ _ _ _ => rfl) (fun z => absurd hn z) (fun _ _ _ _ _ => rfl) (fun d hd z => pk_un (fun y => z ⟨y, hn⟩)) (fun _ => pk_us)⟩
  · by_cases e : d = c
    · subst e
      have h3 : qn_ph (qn_ev p t (qn_one d) S) d = 3 := by rw [qn_evy_ph (qn_one_s d), if_pos hn]
      rw [pk_us, qy_nw_3 h3]
    · rw [pk_un e, r1 d hd]
      unfold qy_nw
      rw [qn_evn_ph (qn_one_n e), qn_evn_cu (qn_one_n e)]
  · by_cases e : d = c
    · subst e
      rw [qn_evy_ph (qn_one_s d), if_pos hn] at h; omega
    · rw [qn_evn_ph (qn_one_n e)] at h
      rw [qn_evn_v (qn_one_n e)]
      exact r2 d hd h
-- one joins its next station
theorem qy_R_jo {p : qp_T} {t r c : Nat} {S : qn_S} {nw jt bg lv : Nat → Int32} (ok : qp_ok p) (K : qn_Ka p r S) (hc : c < qp_m p) (hh : qn_hs S c = true) (hn : ¬ qn_nk S c = qp_vc p c) (R : qy_R p S nw jt bg lv) : qy_R p (qn_ev p t (qn_one c) S) (upd nw c (nI (qn_nk S c))) (upd jt (4 * c + qn_nk S c) (nI t)) (upd bg (4 * c + qn_nk S c) (-1)) lv := by
  obtain ⟨r1, r2, r3⟩ := R
  have hle := qn_nk_le (K c hc).1 hh
  have hv := (ok.2.2 c hc).2.1
  have hu : ∀ d k, k < 4 → ¬ (d = c ∧ qn_nk S c ≠ qp_vc p c ∧ k = qn_nk S c) → 4 * d + k ≠ 4 * c + qn_nk S c := by
    intro d k hk z y
    have e : d = c := by omega
    exact z ⟨e, hn, by omega⟩
  refine ⟨fun d hd => ?_, fun d hd h => ?_, qn_Tm_ev hc (K c hc).1 hh hv r3 (fun d k _ hk z => pk_un (hu d k hk z)) (fun _ => pk_us) (fun d k _ hk z => pk_un (hu d k hk z)) (fun _ _ _ => rfl) (fun z => absurd z hn)⟩
  · by_cases e : d = c
    · subst e
      have h1 : qn_ph (qn_ev p t (qn_one d) S) d = 1 := by rw [qn_evy_ph (qn_one_s d), if_neg hn]
      rw [pk_us, qy_nw_i (Or.inl h1), qn_evy_cu (qn_one_s d)]
    · rw [pk_un e, r1 d hd]
      unfold qy_nw
      rw [qn_evn_ph (qn_one_n e), qn_evn_cu (qn_one_n e)]
  · by_cases e : d = c
    · subst e
      have hv' : qn_v (qn_ev p t (qn_one d) S) d = 4 * d + qn_nk S d := by unfold qn_v; rw [qn_evy_cu (qn_one_s d)]
      rw [hv', pk_us]
    · rw [qn_evn_ph (qn_one_n e)] at h
      have hcu := qn_cu4 ok K hd (Or.inl h)
      rw [qn_evn_v (qn_one_n e), pk_un (by unfold qn_v; omega)]
      exact r2 d hd h
theorem qy_R_beg {p : qp_T} {t r c : Nat} {S : qn_S} {nw jt bg lv : Nat → Int32} (ok : qp_ok p) (K : qn_Ka p r S) (hc : c < qp_m p) (h1 : qn_ph S c = 1) (R : qy_R p S nw jt bg lv) : qy_R p (qn_beg t S c) nw jt (upd bg (qn_v S c) (nI t)) lv := by
  obtain ⟨r1, r2, r3⟩ := R
  have hcu := qn_cu4 ok K hc (Or.inl h1)
  refine ⟨fun d hd => ?_, fun d hd h => ?_, qn_Tm_beg ok K hc h1 r3⟩
  · rw [r1 d hd]
    by_cases e : d = c
    · subst e; rw [qy_nw_i (Or.inl h1), qy_nw_i (Or.inr qn_begy_ph), qn_beg_cu]
    · unfold qy_nw; rw [qn_begn_ph e, qn_beg_cu]
  · by_cases e : d = c
    · subst e; rw [qn_begy_ph] at h; omega
    · rw [qn_begn_ph e] at h
      have hcd := qn_cu4 ok K hd (Or.inl h)
      rw [qn_beg_v, pk_un (by unfold qn_v; omega)]
      exact r2 d hd h
-- how many have not left yet
def qy_lf (p : qp_T) (S : qn_S) : Nat := qs_cnt (fun c => decide (qn_ph S c ≠ 3)) (qp_m p)
theorem qy_lf_beg {p : qp_T} {t c : Nat} {S : qn_S} (h1 : qn_ph S c = 1) : qy_lf p (qn_beg t S c) = qy_lf p S := by
  refine qs_cnt_ext (fun i _ => ?_)
  by_cases e : i = c
  · subst e; rw [decide_eq_true (by rw [qn_begy_ph]; decide), decide_eq_true (by omega)]
  · rw [qn_begn_ph e]
theorem qy_lf_lv {p : qp_T} {t c : Nat} {S : qn_S} (hc : c < qp_m p) (hh : qn_hs S c = true) (hn : qn_nk S c = qp_vc p c) : qy_lf p S = qy_lf p (qn_ev p t (qn_one c) S) + 1 := by
  rw [qn_hs_iff] at hh
  refine qs_cnt_set (c := c) ?_ ?_ (fun i hi => ?_) hc
  · exact decide_eq_false (by rw [qn_evy_ph (qn_one_s c), if_pos hn]; exact fun z => z rfl)
  · exact decide_eq_true (by omega)
  · rw [qn_evn_ph (qn_one_n hi)]
theorem qy_lf_jo {p : qp_T} {t c : Nat} {S : qn_S} (hh : qn_hs S c = true) (hn : ¬ qn_nk S c = qp_vc p c) : qy_lf p (qn_ev p t (qn_one c) S) = qy_lf p S := by
  rw [qn_hs_iff] at hh
  refine qs_cnt_ext (fun i _ => ?_)
  by_cases e : i = c
  · subst e
    rw [decide_eq_true (by rw [qn_evy_ph (qn_one_s i), if_neg hn]; decide), decide_eq_true (by omega)]
  · rw [qn_evn_ph (qn_one_n e)]
theorem qy_lf_0 {p : qp_T} {S : qn_S} (h : qy_lf p S = 0) : ∀ c, c < qp_m p → qn_ph S c = 3 := by
  intro c hc
  have := qs_cnt_0 h c hc
  by_cases e : qn_ph S c = 3
  · exact e
  · rw [decide_eq_true e] at this; exact absurd this (by decide)
theorem qy_lf_s {p : qp_T} : qy_lf p qn_0 = qp_m p := by
  have h : qy_lf p qn_0 = qs_cnt (fun _ => true) (qp_m p) := qs_cnt_ext (fun c _ => decide_eq_true (by rw [qn_0_ph]; decide))
  rw [h, qq_cnt_all]
-- the first i of those that fire
def qy_D (p : qp_T) (t : Nat) (S : qn_S) (i c : Nat) : Bool := decide (c < i ∧ qn_fi p t S c = true)
theorem qy_D_0 {p : qp_T} {t : Nat} {S : qn_S} : qn_ev p t (qy_D p t S 0) S = S := qn_ev_none (fun c => decide_eq_false (by omega))
theorem qy_D_m {p : qp_T} {t : Nat} {S : qn_S} : qy_D p t S (qp_m p) = qn_fi p t S := by
  funext c
  by_cases e : qn_fi p t S c = true
  · rw [e]; exact decide_eq_true ⟨(qn_fi_iff.mp e).1, e⟩
  · rw [Bool.eq_false_iff.mpr e]; exact decide_eq_false (fun z => e z.2)
theorem qy_D_n {p : qp_T} {t i : Nat} {S : qn_S} : ¬ qy_D p t S i i = true := fun z => by have := of_decide_eq_true z; omega
theorem qy_D_f {p : qp_T} {t i c : Nat} {S : qn_S} (h : qy_D p t S i c = true) : qn_fi p t S c = true := (of_decide_eq_true h).2
theorem qy_D_no {p : qp_T} {t i : Nat} {S : qn_S} (h : ¬ qn_fi p t S i = true) : qy_D p t S (i + 1) = qy_D p t S i := by
  funext c
  by_cases e : c = i
  · subst e
    unfold qy_D
    rw [decide_eq_false (fun z => h z.2), decide_eq_false (fun z => h z.2)]
  · unfold qy_D
    exact decide_eq_decide.mpr ⟨fun z => ⟨by omega, z.2⟩, fun z => ⟨by omega, z.2⟩⟩
theorem qy_D_ye {p : qp_T} {t i : Nat} {S : qn_S} (h : qn_fi p t S i = true) : qn_ev p t (qy_D p t S (i + 1)) S = qn_ev p t (qn_one i) (qn_ev p t (qy_D p t S i) S) := by
  rw [qn_ev_one qy_D_n]
  congr 1
  funext c
  by_cases e : c = i
  · subst e
    rw [qn_one_s, Bool.or_true]
    exact decide_eq_true ⟨by omega, h⟩
  · have h1 : qn_one i c = false := decide_eq_false e
    rw [h1, Bool.or_false]
    unfold qy_D
    exact decide_eq_decide.mpr ⟨fun z => ⟨by omega, z.2⟩, fun z => ⟨by omega, z.2⟩⟩
end
section
-- what the loops of the stores keep; A is the content with the hole at k filled by x
def qs_so (n k x : Nat) (ev : Nat → Int32) (P : Nat → Prop) (A : Nat → Nat) : Prop :=
  (∀ j, j ≤ n → j ≠ k → ev j = nI (A j)) ∧ A k = x ∧ qs_St A (n + 1) P ∧ k ≤ n ∧ ∀ y, P y → y < 49312
theorem qs_so_v {n k x : Nat} {ev : Nat → Int32} {P : Nat → Prop} {A : Nat → Nat} (h : qs_so n k x ev P A) {j : Nat} (hj : j ≤ n) (hk : j ≠ k) : ev j = nI (A j) ∧ A j < 49312 := ⟨h.1 j hj hk, h.2.2.2.2 _ (h.2.2.1.1 j (by omega))⟩
theorem qs_so_i {n k x : Nat} {ev : Nat → Int32} {P : Nat → Prop} {A : Nat → Nat} (h : qs_so n k x ev P A) {j : Nat} (hj : j ≤ n) (hk : j ≠ k) : qs_so n j x (upd ev k (nI (A j))) P (qs_sw A k j) := by
  obtain ⟨h1, h2, h3, h4, h5⟩ := h
  refine ⟨fun i hi hij => ?_, ?_, qs_swap h3 (by omega) (by omega), hj, h5⟩
  · by_cases e : i = k
    · subst e; rw [pk_us, qs_swl]
    · rw [pk_un e, qs_swn e hij]; exact h1 i hi e
  · rw [qs_swr]; exact h2
theorem qs_so_e {n k x : Nat} {ev : Nat → Int32} {P : Nat → Prop} {A : Nat → Nat} (h : qs_so n k x ev P A) : ∀ i, i < n + 1 → upd ev k (nI x) i = nI (A i) := by
  obtain ⟨h1, h2, h3, h4, h5⟩ := h
  intro i hi
  by_cases e : i = k
  · subst e; rw [pk_us, h2]
  · rw [pk_un e]; exact h1 i (by omega) e
theorem qs_so_0 {n x : Nat} {ev : Nat → Int32} {P : Nat → Prop} {A : Nat → Nat} (hA : ∀ i, i < n → ev i = nI (A i)) (hS : qs_St A n P) (hx : ¬ P x) (hb : ∀ y, P y → y < 49312) (hx2 : x < 49312) : qs_so n n x ev (fun y => P y ∨ y = x) (qs_w A n x) := by
  refine ⟨fun j hj hn => ?_, qs_ws A n x, qs_app hS hx, Nat.le_refl _, fun y hy => ?_⟩
  · rw [qs_wn hn]; exact hA j (by omega)
  · rcases hy with hy | hy
    · exact hb y hy
    · rw [hy]; exact hx2
-- engine 0: to the end
theorem qs_ad0 {n x : Nat} {ev cal : Nat → Int32} {P : Nat → Prop} (h : qx_St 0 n ev cal P) (hx : ¬ P x) (hx2 : x < 49312) : qx_St 0 (n + 1) (upd ev n (nI x)) cal (fun y => P y ∨ y = x) := by
  obtain ⟨h1, h2, h3⟩ := h
  obtain ⟨A, a1, a2, a3, a4⟩ := h1 (by omega)
  have s := qs_so_0 a1 a2 hx h3 hx2
  exact ⟨fun _ => ⟨_, qs_so_e s, s.2.2.1, fun z => absurd z (by omega), fun z => absurd z (by omega)⟩, fun z => absurd z (by omega), s.2.2.2.2⟩
-- engine 1
theorem qs_s1_s {n k x : Nat} {ev : Nat → Int32} {P : Nat → Prop} {A : Nat → Nat} (h : qs_so n (k + 1) x ev P A) (hf : qs_fallx A (n + 1) (k + 1)) (hl : A k < x) : qs_fallx (qs_sw A (k + 1) k) (n + 1) k := by
  have h2 := h.2.1
  have h4 := h.2.2.2.1
  exact qs_falls hf (by omega) (by rw [h2]; exact hl)
theorem qs_s1_e {n k x : Nat} {ev cal : Nat → Int32} {P : Nat → Prop} {A : Nat → Nat} (h : qs_so n k x ev P A) (hf : qs_fallx A (n + 1) k) (hl : ∀ i, i + 1 = k → ¬ A i < x) : qx_St 1 (n + 1) (upd ev k (nI x)) cal P := by
  refine ⟨fun _ => ⟨A, qs_so_e h, h.2.2.1, fun _ => qs_falle hf (fun i hi => ?_), fun z => absurd z (by omega)⟩, fun z => absurd z (by omega), h.2.2.2.2⟩
  have h1 := hl i hi
  have h2 := h.2.1
  have h4 := h.2.2.2.1
  have h3 := h.2.2.1.2.2 i k (by omega) (by omega)
  omega
-- engine 2, up
theorem qs_s2_s {n k x : Nat} {ev : Nat → Int32} {P : Nat → Prop} {A : Nat → Nat} (h : qs_so n k x ev P A) (hf : qs_up A (n + 1) k) (h0 : 0 < k) (hl : ¬ A ((k - 1) / 2) < x) : qs_up (qs_sw A k ((k - 1) / 2)) (n + 1) ((k - 1) / 2) := by
  have h2 := h.2.1
  have h4 := h.2.2.2.1
  exact qs_ups hf h0 (by omega) (by rw [h2]; omega)
theorem qs_s2_e {n k x : Nat} {ev cal : Nat → Int32} {P : Nat → Prop} {A : Nat → Nat} (h : qs_so n k x ev P A) (hf : qs_up A (n + 1) k) (hl : 0 < k → A ((k - 1) / 2) < x) : qx_St 2 (n + 1) (upd ev k (nI x)) cal P := by
  refine ⟨fun _ => ⟨A, qs_so_e h, h.2.2.1, fun z => absurd z (by omega), fun _ => qs_upe hf (fun h0 => ?_)⟩, fun z => absurd z (by omega), h.2.2.2.2⟩
  have h1 := hl h0
  have h2 := h.2.1
  omega
-- engine 2, down: l slots are left
def qs_hd (l k x : Nat) (ev : Nat → Int32) (P : Nat → Prop) (A : Nat → Nat) : Prop :=
  (∀ j, j < l → j ≠ k → ev j = nI (A j)) ∧ (k < l → A k = x) ∧ qs_St A l P ∧ qs_dn A l k ∧ (k < l ∨ (l = 0 ∧ k = 0)) ∧ ∀ y, P y → y < 49312
theorem qs_hd_v {l k x : Nat} {ev : Nat → Int32} {P : Nat → Prop} {A : Nat → Nat} (h : qs_hd l k x ev P A) {j : Nat} (hj : j < l) (hk : j ≠ k) : ev j = nI (A j) ∧ A j < 49312 := ⟨h.1 j hj hk, h.2.2.2.2.2 _ (h.2.2.1.1 j hj)⟩
theorem qs_hd_0 {n : Nat} {ev : Nat → Int32} {P : Nat → Prop} {A : Nat → Nat} (hA : ∀ i, i < n + 1 → ev i = nI (A i)) (hS : qs_St A (n + 1) P) (hh : qs_hp A (n + 1)) (hb : ∀ y, P y → y < 49312) : qs_hd n 0 (A n) ev (fun y => P y ∧ y ≠ A 0) (qs_w A 0 (A n)) := by
  refine ⟨fun j hj h0 => ?_, fun _ => qs_ws _ _ _, qs_rm hS (Nat.zero_le _), qs_dn0 hh, by omega, fun y hy => hb y hy.1⟩
  rw [qs_wn h0]
  exact hA j (by omega)
theorem qs_hd_s {l k x c : Nat} {ev : Nat → Int32} {P : Nat → Prop} {A : Nat → Nat} (h : qs_hd l k x ev P A) (hc0 : 0 < c) (hc : c < l) (hp : (c - 1) / 2 = k) (hl : A c ≤ x) (hm : ∀ i, 0 < i → i < l → (i - 1) / 2 = k → A c ≤ A i) : qs_hd l c x (upd ev k (nI (A c))) P (qs_sw A k c) := by
  obtain ⟨h1, h2, h3, h4, h5, h6⟩ := h
  have hk : k < l := by omega
  have hx := h2 hk
  refine ⟨fun i hi hic => ?_, fun _ => ?_, qs_swap h3 hk hc, qs_dns h4 hc0 hc hp (by omega) hm, Or.inl hc, h6⟩
  · by_cases e : i = k
    · subst e; rw [pk_us, qs_swl]
    · rw [pk_un e, qs_swn e hic]; exact h1 i hi e
  · rw [qs_swr]; exact hx
theorem qs_hd_e {l k x : Nat} {ev cal : Nat → Int32} {P : Nat → Prop} {A : Nat → Nat} (h : qs_hd l k x ev P A) (hm : ∀ i, 0 < i → i < l → (i - 1) / 2 = k → x ≤ A i) : qx_St 2 l (upd ev k (nI x)) cal P := by
  obtain ⟨h1, h2, h3, h4, h5, h6⟩ := h
  refine ⟨fun _ => ⟨A, fun i hi => ?_, h3, fun z => absurd z (by omega), fun _ => qs_dne h4 (fun i i0 hi hp => ?_)⟩, fun z => absurd z (by omega), h6⟩
  · by_cases e : i = k
    · subst e; rw [pk_us, h2 hi]
    · rw [pk_un e]; exact h1 i hi e
  · have hx := h2 (by omega)
    have := hm i i0 hi hp
    omega
-- engine 3
theorem qs_Ca_z {P : Nat → Prop} {cal : Nat → Int32} {t : Nat} (h : qs_Ca cal P) (ht : t < 1541) (hn : ∀ k, k < 32 → ¬ P (t * 32 + k)) : cal t = 0 := by
  refine b_ext (fun i hi => ?_)
  rw [b_0]
  exact Bool.eq_false_iff.mpr (fun z => hn i hi ((h t ht i hi).mp z))
theorem qs_Ca_nz {P : Nat → Prop} {cal : Nat → Int32} {t k : Nat} (h : qs_Ca cal P) (ht : t < 1541) (hk : k < 32) (hP : P (t * 32 + k)) : ¬ cal t = 0 := qs_nz ((h t ht k hk).mpr hP)
theorem qs_ad3 {n x : Nat} {ev cal : Nat → Int32} {P : Nat → Prop} (h : qx_St 3 n ev cal P) (hx2 : x < 49312) : qx_St 3 (n + 1) ev (upd cal (x / 32) (cal (x / 32) ||| ((1 : Int32) <<< (nI (x % 32) &&& 31)))) (fun y => P y ∨ y = x) := by
  obtain ⟨h1, h2, h3⟩ := h
  have e : x = x / 32 * 32 + x % 32 := by omega
  refine ⟨fun z => absurd z (by omega), fun _ => ?_, fun y hy => ?_⟩
  · have h4 := qs_Ca_add (t := x / 32) (k := x % 32) (h2 (by omega)) (by omega)
    rw [← e] at h4
    exact h4
  · rcases hy with hy | hy
    · exact h3 y hy
    · rw [hy]; exact hx2
theorem qs_rm3 {n x : Nat} {ev cal : Nat → Int32} {P : Nat → Prop} (h : qx_St 3 (n + 1) ev cal P) : qx_St 3 n ev (upd cal (x / 32) (cal (x / 32) &&& (((1 : Int32) <<< (nI (x % 32) &&& 31)) ^^^ (-1)))) (fun y => P y ∧ y ≠ x) := by
  obtain ⟨h1, h2, h3⟩ := h
  have e : x = x / 32 * 32 + x % 32 := by omega
  refine ⟨fun z => absurd z (by omega), fun _ => ?_, fun y hy => h3 y hy.1⟩
  have h4 := qs_Ca_rm (t := x / 32) (k := x % 32) (h2 (by omega)) (by omega)
  rw [← e] at h4
  exact h4
-- the first of engines 0, 1, 2
theorem qs_fst {n x pl : Nat} {P : Nat → Prop} {A : Nat → Nat} (hS : qs_St A n P) (hp : pl < n) (hl : ∀ i, i < n → A pl ≤ A i) (hx : P x) (hm : ∀ y, P y → x ≤ y) : A pl = x := by
  have h1 := hm _ (hS.1 pl hp)
  obtain ⟨i, hi, e⟩ := hS.2.1 x hx
  have h2 := hl i hi
  omega
theorem qs_rm0 {n pl x : Nat} {ev cal : Nat → Int32} {P : Nat → Prop} {A : Nat → Nat} (hA : ∀ i, i < n + 1 → ev i = nI (A i)) (hS : qs_St A (n + 1) P) (hb : ∀ y, P y → y < 49312) (hp : pl ≤ n) (hx : A pl = x) : qx_St 0 n (upd ev pl (ev n)) cal (fun y => P y ∧ y ≠ x) := by
  have h := qs_rm hS hp
  rw [hx] at h
  refine ⟨fun _ => ⟨_, fun i hi => ?_, h, fun z => absurd z (by omega), fun z => absurd z (by omega)⟩, fun z => absurd z (by omega), fun y hy => hb y hy.1⟩
  by_cases e : i = pl
  · subst e; rw [pk_us, qs_ws]; exact hA n (by omega)
  · rw [pk_un e, qs_wn e]; exact hA i (by omega)
-- engine 1: the last slot is taken off
theorem qs_rm1 {n x : Nat} {ev cal : Nat → Int32} {P : Nat → Prop} {A : Nat → Nat} (hA : ∀ i, i < n + 1 → ev i = nI (A i)) (hS : qs_St A (n + 1) P) (hf : qs_fall A (n + 1)) (hb : ∀ y, P y → y < 49312) (hx : A n = x) : qx_St 1 n ev cal (fun y => P y ∧ y ≠ x) := by
  refine ⟨fun _ => ⟨A, fun i hi => hA i (by omega), ⟨fun i hi => ⟨hS.1 i (by omega), fun z => ?_⟩, fun y hy => ?_, fun i j hij hj => hS.2.2 i j hij (by omega)⟩, fun _ i j hij hj => hf i j hij (by omega), fun z => absurd z (by omega)⟩, fun z => absurd z (by omega), fun y hy => hb y hy.1⟩
  · exact hS.2.2 i n hi (by omega) (by rw [z, hx])
  · obtain ⟨i, hi, e⟩ := hS.2.1 y hy.1
    have hn : i ≠ n := fun z => hy.2 (by rw [← e, z, hx])
    exact ⟨i, by omega, e⟩
end
section
-- nothing of t is left: all that fire have fired
theorem qn_D_all {p : qp_T} {t : Nat} {S : qn_S} {D : Nat → Bool} (hD : ∀ c, D c = true → qn_fi p t S c = true) (hn : ∀ c, c < qp_m p → qn_hs (qn_ev p t D S) c = true → qn_tm p (qn_ev p t D S) c ≠ t) : D = qn_fi p t S := by
  funext c
  by_cases d : D c = true
  · rw [d, hD c d]
  · by_cases f : qn_fi p t S c = true
    · exfalso
      obtain ⟨f1, f2, f3⟩ := qn_fi_iff.mp f
      refine hn c f1 ?_ ?_
      · rw [qn_evn_hs d]; exact f2
      · rw [qn_evn_tm d]; exact f3
    · rw [Bool.eq_false_iff.mpr d, Bool.eq_false_iff.mpr f]
-- one that has an event to come in the midst, of time t: it fires, and hasn't yet
theorem qn_D_in {p : qp_T} {t c : Nat} {S : qn_S} {D : Nat → Bool} (hc : c < qp_m p) (hh : qn_hs (qn_ev p t D S) c = true) (ht : qn_tm p (qn_ev p t D S) c = t) : ¬ D c = true ∧ qn_fi p t S c = true := by
  have d : ¬ D c = true := by
    intro d
    rw [qn_evy_hs d] at hh
    exact absurd hh (by decide)
  rw [qn_evn_hs d] at hh
  rw [qn_evn_tm d] at ht
  exact ⟨d, qn_fi_iff.mpr ⟨hc, hh, ht⟩⟩
theorem qn_D_or {p : qp_T} {t c : Nat} {S : qn_S} {D : Nat → Bool} (hD : ∀ c, D c = true → qn_fi p t S c = true) (h : qn_fi p t S c = true) : ∀ d, (D d || qn_one c d) = true → qn_fi p t S d = true := by
  intro d hd
  rcases (Bool.or_eq_true _ _).mp hd with z | z
  · exact hD d z
  · have e : d = c := of_decide_eq_true z
    rw [e]; exact h
theorem qn_num_tm {p : qp_T} {S : qn_S} {c d : Nat} (hc : c < 12) (hd : d < 12) (h : qn_num p S c ≤ qn_num p S d) : qn_tm p S c ≤ qn_tm p S d := by
  have h1 := qn_num_d (p := p) (S := S) hc
  have h2 := qn_num_d (p := p) (S := S) hd
  omega
-- the stations before s have been filled
def qn_fs (p : qp_T) (t : Nat) (S : qn_S) : Nat → qn_S
  | 0 => S
  | s + 1 => qn_fl p t s 3 (qn_fs p t S s)
theorem qn_fs_4 (p : qp_T) (t : Nat) (S : qn_S) : qn_f4 p t S = qn_fs p t S 4 := rfl
theorem qn_Q_fs {p : qp_T} {t : Nat} {S : qn_S} (ok : qp_ok p) (Q : qn_Q p t (t + 1) S) : ∀ s, s ≤ 4 → qn_Q p t (t + 1) (qn_fs p t S s)
  | 0, _ => Q
  | s + 1, h => qn_Q_fl ok (by omega) 3 (qn_Q_fs ok Q s (by omega))
theorem qn_Phi_fl {p : qp_T} {t s n : Nat} {S : qn_S} : qn_Phi p (qn_fl p t s n S) = qn_Phi p S := by
  refine qn_fl_ind (Q := fun R => qn_Phi p R = qn_Phi p S) (fun R c hR _ hc => ?_) n S rfl
  rw [qn_Phi_beg (qn_wt_iff.mp (qn_pk_y hc).2).1]
  exact hR
theorem qn_Phi_st {p : qp_T} {t c : Nat} {S : qn_S} (w : ∀ c, c < qp_m p → qn_wf p S c) (h : qn_fi p t S c = true) : qn_Phi p (qn_st p t S) + 1 ≤ qn_Phi p S := by
  unfold qn_st qn_f4
  rw [qn_Phi_fl, qn_Phi_fl, qn_Phi_fl, qn_Phi_fl]
  exact qn_Phi_ev w (fun d hd => (qn_fi_iff.mp hd).2.1) (qn_fi_iff.mp h).1 h
-- from event to event
theorem qn_next {p : qp_T} {T c : Nat} (ok : qp_ok p) (hc : c < qp_m p) (hh : qn_hs (qn_ps p T) c = true) (hl : ∀ x, qn_P p (qn_ps p T) x → qn_num p (qn_ps p T) c ≤ x) : T ≤ qn_tm p (qn_ps p T) c ∧ qn_ps p (qn_tm p (qn_ps p T) c) = qn_ps p T := by
  obtain ⟨a1, a2, a3, a4, a5⟩ := qn_A_ps ok T
  have hm := ok.1
  have h1 := a4 c hc hh
  refine ⟨h1, qn_stay (n := qn_tm p (qn_ps p T) c) a5 (fun r d hr hlt z => ?_) _ h1 (Nat.le_refl _)⟩
  obtain ⟨f1, f2, f3⟩ := qn_fi_iff.mp z
  have h2 := hl _ ⟨d, f1, f2, rfl⟩
  have h3 := qn_num_tm (by omega) (by omega) h2
  omega
theorem qn_Phi_0 {p : qp_T} {S : qn_S} (w : ∀ c, c < qp_m p → qn_wf p S c) (h : qn_Phi p S = 0) : qn_nh p S = 0 := by
  rcases Nat.eq_zero_or_pos (qn_nh p S) with z | z
  · exact z
  · exfalso
    obtain ⟨x, c, hc, hh, _⟩ := qn_nh_ex z
    have h1 := qs_sum_mem (f := qn_ey p S) hc
    have h2 : qn_ey p S c = 0 := by unfold qn_Phi at h; omega
    have h3 := w c hc
    unfold qn_wf at h3
    rcases qn_hs_iff.mp hh with e | e
    · rw [qn_ey_0 e] at h2; omega
    · rw [qn_ey_2 e] at h2; omega
end
section
def ix_v (v : Int32) (n : Nat) : Prop := ∃ j, j < n ∧ v = nI j
theorem ix_f {v : Int32} {n : Nat} (hn : n < 2 ^ 31) (h : ¬ ix_v v n) : v < 0 ∨ (¬ v < 0 ∧ nI n ≤ v) := by
  rcases pk_ix v hn with a | a | ⟨j, hj, e⟩
  · exact Or.inl a
  · by_cases c : v < 0
    · exact Or.inl c
    · exact Or.inr ⟨c, a⟩
  · exact absurd ⟨j, hj, e⟩ h
theorem ix_f1 {v : Int32} {n : Nat} (hn : n + 1 < 2 ^ 31) (h : ¬ ix_v v (n + 1)) : v < 0 ∨ (¬ v < 0 ∧ nI n < v) := by
  rcases ix_f hn h with a | ⟨a, b⟩
  · exact Or.inl a
  · exact Or.inr ⟨a, Int32.lt_of_lt_of_le (nI_lt (by omega) hn) b⟩
section XB
variable {p : qp_T} {mm nw nc : Int32} {sC rU aR vC vS vN jT bG lV oJ oB oL cV wA fR eV cA : Nat → Int32}
theorem xb_st_t {post : Int32 → Prop} {s : Nat} (hs : s < 4) (h : post 1) : wpX_isStation post (nI s) :=
  br_f (nI_pos (by omega)) (br_f (nI_ge (b := 4) hs (by decide)) h)
theorem xb_st_f {post : Int32 → Prop} {v : Int32} (hs : ¬ ix_v v 4) (h : post 0) : wpX_isStation post v := by
  rcases ix_f (by omega) hs with a | ⟨a, b⟩
  · exact br_t a h
  · exact br_f a (br_t b h)
theorem xb_en_t {post : Int32 → Prop} {s : Nat} (hs : s < 4) (h : post 1) : wpX_isEngine post (nI s) :=
  br_f (nI_pos (by omega)) (br_f (nI_ge (b := 4) hs (by decide)) h)
theorem xb_en_f {post : Int32 → Prop} {v : Int32} (hs : ¬ ix_v v 4) (h : post 0) : wpX_isEngine post v := by
  rcases ix_f (by omega) hs with a | ⟨a, b⟩
  · exact br_t a h
  · exact br_f a (br_t b h)
theorem xb_tm_t {post : Int32 → Prop} {t : Nat} (ht : t < 10001) (h : post 1) : wpX_isAskedTime post (nI t) :=
  br_f (nI_pos (by omega)) (br_f (nI_nlt (a := 10000) (b := t) (by omega) (by decide)) h)
theorem xb_tm_f {post : Int32 → Prop} {v : Int32} (hs : ¬ ix_v v 10001) (h : post 0) : wpX_isAskedTime post v := by
  rcases ix_f1 (n := 10000) (by omega) hs with a | ⟨a, b⟩
  · exact br_t a h
  · exact br_f a (br_t b h)
theorem xb_cu_t {post : Int32 → Prop} {c : Nat} (hm : qp_m p ≤ 12) (hc : c < qp_m p) (h : post 1) : wpX_isCustomer post ((nI (qp_m p)), nw, nc, (qp_SV p), (qp_RU p), (qp_AR p), (qp_VC p), (qp_VS p), (qp_VN p), jT, bG, lV, oJ, oB, oL, cV, wA, fR, eV, cA) (nI c) :=
  br_f (nI_pos (by omega)) (br_f (nI_ge hc (by omega)) h)
theorem xb_cu_f {post : Int32 → Prop} {v : Int32} (hm : qp_m p ≤ 12) (hs : ¬ ix_v v (qp_m p)) (h : post 0) : wpX_isCustomer post ((nI (qp_m p)), nw, nc, (qp_SV p), (qp_RU p), (qp_AR p), (qp_VC p), (qp_VS p), (qp_VN p), jT, bG, lV, oJ, oB, oL, cV, wA, fR, eV, cA) v := by
  rcases ix_f (by omega) hs with a | ⟨a, b⟩
  · exact br_t a h
  · exact br_f a (br_t b h)
end XB
end
section
theorem xl_m1 (x : Int32) : x + (-1) = x - 1 := (Int32.sub_eq_add_neg x 1).symm
theorem xl_n1 : nI 0 - 1 < 0 := by decide
section XS
variable {p : qp_T} {mm nw nc : Int32} {sC rU aR vC vS vN jT bG lV oJ oB oL cV wA fR eV cA : Nat → Int32}
theorem xl_pl_l {post : Int32 → Prop} {N : Nat} {A : Nat → Nat} (hN : N ≤ 12) (hA : ∀ i, i < N → eV i = nI (A i)) (hb : ∀ i, i < N → A i < 49312) (h : ∀ q, q < N → (∀ i, i < N → A q ≤ A i) → post (nI q)) :
    ∀ (d n i q : Nat), i + d = N → d < n → q < i → (∀ j, j < i → A q ≤ A j) → wX_placeOfLeast_4 post mm nw (nI N) sC rU aR vC vS vN jT bG lV oJ oB oL cV wA fR eV cA n (nI q) (nI i) := by
  intro d
  induction d with
  | zero =>
    intro n i q h1 h2 h3 h4
    obtain ⟨n, rfl⟩ : ∃ m, n = m + 1 := ⟨n - 1, by omega⟩
    rw [wX_placeOfLeast_4]
    exact br_t (nI_le (by omega) (by omega)) (h q (by omega) (fun j hj => h4 j (by omega)))
  | succ d ih =>
    intro n i q h1 h2 h3 h4
    obtain ⟨n, rfl⟩ : ∃ m, n = m + 1 := ⟨n - 1, by omega⟩
    rw [wX_placeOfLeast_4]
    have ei : (nI i).toNatClampNeg = i := nI_clamp (by omega)
    have eq : (nI q).toNatClampNeg = q := nI_clamp (by omega)
    have wi : vp_in (nI i) 12 := vp_in_nI (by omega) (by omega)
    have wq : vp_in (nI q) 12 := vp_in_nI (by omega) (by omega)
    have gi := hA i (by omega)
    have gq := hA q (by omega)
    have bi := hb i (by omega)
    have bq := hb q (by omega)
    refine br_f (nI_ge (by omega) (by omega)) ⟨wi, wq, ?_⟩
    by_cases c : A i < A q
    · refine br_f (by rw [ei, eq, gi, gq]; exact nI_ge c (by omega)) (nm_r (nI_1 i) (ih n (i + 1) i (by omega) (by omega) (by omega) (fun j hj => ?_)))
      by_cases e : j = i
      · rw [e]; exact Nat.le_refl _
      · have := h4 j (by omega); omega
    · refine br_t (by rw [ei, eq, gi, gq]; exact nI_le (by omega) (by omega)) (nm_r (nI_1 i) (ih n (i + 1) q (by omega) (by omega) (by omega) (fun j hj => ?_)))
      by_cases e : j = i
      · rw [e]; omega
      · exact h4 j (by omega)
theorem xl_pl {post : Int32 → Prop} {N : Nat} {A : Nat → Nat} (h0 : 0 < N) (hN : N ≤ 12) (hA : ∀ i, i < N → eV i = nI (A i)) (hb : ∀ i, i < N → A i < 49312) (h : ∀ q, q < N → (∀ i, i < N → A q ≤ A i) → post (nI q)) : wpX_placeOfLeast post (mm, nw, nI N, sC, rU, aR, vC, vS, vN, jT, bG, lV, oJ, oB, oL, cV, wA, fR, eV, cA) := by
  refine ⟨N, xl_pl_l hN hA hb h (N - 1) N 1 0 (by omega) (by omega) (by omega) (fun j hj => ?_)⟩
  have e : j = 0 := by omega
  rw [e]; exact Nat.le_refl _
-- engine 1
theorem xl_so_x {post : SX → Prop} {N x k : Nat} {P : Nat → Prop} {ev : Nat → Int32} {A : Nat → Nat} (hN : N < 12) (h : ∀ ev', (∀ cal, qx_St 1 (N + 1) ev' cal P) → post (mm, nw, nI N, sC, rU, aR, vC, vS, vN, jT, bG, lV, oJ, oB, oL, cV, wA, fR, ev', cA)) (s : qs_so N k x ev P A) (f : qs_fallx A (N + 1) k) (hl : ∀ i, i + 1 = k → ¬ A i < x) : vp_in (nI k) 12 ∧ ∀ a : Nat → Int32, a = upd ev (nI k).toNatClampNeg (nI x) → post (mm, nw, nI N, sC, rU, aR, vC, vS, vN, jT, bG, lV, oJ, oB, oL, cV, wA, fR, a, cA) := by
  have h4 := s.2.2.2.1
  have ek : (nI k).toNatClampNeg = k := nI_clamp (by omega)
  exact ⟨vp_in_nI (by omega) (by omega), nm_r (e' := upd ev k (nI x)) (by rw [ek]) (h _ (fun cal => qs_s1_e s f hl))⟩
theorem xl_so_l {post : SX → Prop} {N x : Nat} {P : Nat → Prop} (hN : N < 12) (hx : x < 49312) (h : ∀ ev', (∀ cal, qx_St 1 (N + 1) ev' cal P) → post (mm, nw, nI N, sC, rU, aR, vC, vS, vN, jT, bG, lV, oJ, oB, oL, cV, wA, fR, ev', cA)) :
    ∀ (k n : Nat) (ev : Nat → Int32) (A : Nat → Nat), k < n → qs_so N k x ev P A → qs_fallx A (N + 1) k → wX_addToSortedList_12 post (nI x) mm nw (nI N) n (nI k) (nI k - 1) sC rU aR vC vS vN jT bG lV oJ oB oL cV wA fR ev cA := by
  intro k
  induction k with
  | zero =>
    intro n ev A h1 s f
    obtain ⟨n, rfl⟩ : ∃ m, n = m + 1 := ⟨n - 1, by omega⟩
    rw [wX_addToSortedList_12]
    exact br_t xl_n1 (xl_so_x hN h s f (fun i hi => by omega))
  | succ k ih =>
    intro n ev A h1 s f
    obtain ⟨n, rfl⟩ : ∃ m, n = m + 1 := ⟨n - 1, by omega⟩
    rw [wX_addToSortedList_12, nI_pred]
    have h4 := s.2.2.2.1
    have ek : (nI k).toNatClampNeg = k := nI_clamp (by omega)
    have ek1 : (nI k + 1).toNatClampNeg = k + 1 := by rw [nI_1]; exact nI_clamp (by omega)
    have wk : vp_in (nI k) 12 := vp_in_nI (by omega) (by omega)
    have wk1 : vp_in (nI k + 1) 12 := by rw [nI_1]; exact vp_in_nI (by omega) (by omega)
    obtain ⟨gk, bk⟩ := qs_so_v s (j := k) (by omega) (by omega)
    refine br_f (nI_pos (by omega)) ⟨wk, ?_⟩
    by_cases c : A k < x
    · refine br_f (by rw [ek, gk]; exact nI_ge c (by omega)) ⟨wk, wk1, nm_r (e' := upd ev (k + 1) (nI (A k))) (by rw [ek, ek1, gk]) (nm_r (xl_m1 (nI k)) (ih n _ _ (by omega) (qs_so_i s (by omega) (by omega)) (qs_s1_s s f c)))⟩
    · exact br_t (by rw [ek, gk]; exact nI_le (by omega) (by omega)) (xl_so_x hN h s f (fun i hi => by rw [show i = k from by omega]; exact c))
theorem xl_so {post : SX → Prop} {N x : Nat} {P : Nat → Prop} (hN : N < 12) (hx : x < 49312) (hP : ¬ P x) (hS : qx_St 1 N eV cA P) (h : ∀ ev', (∀ cal, qx_St 1 (N + 1) ev' cal (fun y => P y ∨ y = x)) → post (mm, nw, nI N, sC, rU, aR, vC, vS, vN, jT, bG, lV, oJ, oB, oL, cV, wA, fR, ev', cA)) : wpX_addToSortedList post (mm, nw, nI N, sC, rU, aR, vC, vS, vN, jT, bG, lV, oJ, oB, oL, cV, wA, fR, eV, cA) (nI x) := by
  obtain ⟨A, a1, a2, a3, a4⟩ := hS.1 (by omega)
  exact nm_e ⟨N + 1, xl_so_l hN hx h N (N + 1) _ _ (by omega) (qs_so_0 a1 a2 hP hS.2.2 hx) (qs_fall0 (a3 rfl))⟩
-- engine 2, up
theorem xl_hu_x {post : SX → Prop} {N x k : Nat} {P : Nat → Prop} {ev : Nat → Int32} {A : Nat → Nat} (hN : N < 12) (h : ∀ ev', (∀ cal, qx_St 2 (N + 1) ev' cal P) → post (mm, nw, nI N, sC, rU, aR, vC, vS, vN, jT, bG, lV, oJ, oB, oL, cV, wA, fR, ev', cA)) (s : qs_so N k x ev P A) (f : qs_up A (N + 1) k) (hl : 0 < k → A ((k - 1) / 2) < x) : vp_in (nI k) 12 ∧ ∀ a : Nat → Int32, a = upd ev (nI k).toNatClampNeg (nI x) → post (mm, nw, nI N, sC, rU, aR, vC, vS, vN, jT, bG, lV, oJ, oB, oL, cV, wA, fR, a, cA) := by
  have h4 := s.2.2.2.1
  have ek : (nI k).toNatClampNeg = k := nI_clamp (by omega)
  exact ⟨vp_in_nI (by omega) (by omega), nm_r (e' := upd ev k (nI x)) (by rw [ek]) (h _ (fun cal => qs_s2_e s f hl))⟩
theorem xl_hu_l {post : SX → Prop} {N x : Nat} {P : Nat → Prop} (hN : N < 12) (hx : x < 49312) (h : ∀ ev', (∀ cal, qx_St 2 (N + 1) ev' cal P) → post (mm, nw, nI N, sC, rU, aR, vC, vS, vN, jT, bG, lV, oJ, oB, oL, cV, wA, fR, ev', cA)) :
    ∀ (d n i k : Nat) (ev : Nat → Int32) (A : Nat → Nat), i + d = 12 → d < n → (k = 0 ∨ k + i ≤ N) → qs_so N k x ev P A → qs_up A (N + 1) k → wX_addToHeap_7 post (nI x) mm nw (nI N) n (nI k) (nI i) sC rU aR vC vS vN jT bG lV oJ oB oL cV wA fR ev cA := by
  intro d
  induction d with
  | zero =>
    intro n i k ev A h1 h2 h3 s f
    obtain ⟨n, rfl⟩ : ∃ m, n = m + 1 := ⟨n - 1, by omega⟩
    rw [wX_addToHeap_7]
    exact br_t (nI_le (a := 12) (by omega) (by omega)) (xl_hu_x hN h s f (fun z => by omega))
  | succ d ih =>
    intro n i k ev A h1 h2 h3 s f
    obtain ⟨n, rfl⟩ : ∃ m, n = m + 1 := ⟨n - 1, by omega⟩
    rw [wX_addToHeap_7]
    refine br_f (nI_ge (b := 12) (by omega) (by decide)) ?_
    by_cases k0 : k = 0
    · subst k0
      exact br_t (nI_le (a := 0) (b := 0) (by omega) (by omega)) (xl_hu_x hN h s f (fun z => by omega))
    · obtain ⟨k, rfl⟩ : ∃ m, k = m + 1 := ⟨k - 1, by omega⟩
      have h4 := s.2.2.2.1
      have ed : (nI (k + 1) - 1) / 2 = nI (k / 2) := by rw [nI_pred]; exact pk_div (d := 2) (by omega) (by omega) (by omega)
      have eq : (nI (k / 2)).toNatClampNeg = k / 2 := nI_clamp (by omega)
      have ek : (nI (k + 1)).toNatClampNeg = k + 1 := nI_clamp (by omega)
      have wq : vp_in (nI (k / 2)) 12 := vp_in_nI (by omega) (by omega)
      have wk : vp_in (nI (k + 1)) 12 := vp_in_nI (by omega) (by omega)
      have ep : (k + 1 - 1) / 2 = k / 2 := rfl
      obtain ⟨gq, bq⟩ := qs_so_v s (j := k / 2) (by omega) (by omega)
      refine br_f (nI_nle (by omega) (by omega)) ⟨by decide, nm_r ed ⟨wq, ?_⟩⟩
      by_cases c : A (k / 2) < x
      · exact br_f (by rw [eq, gq]; exact nI_ge c (by omega)) (xl_hu_x hN h s f (fun _ => c))
      · refine br_t (by rw [eq, gq]; exact nI_le (by omega) (by omega)) ⟨wq, wk, nm_r (e' := upd ev (k + 1) (nI (A (k / 2)))) (by rw [eq, ek, gq]) (nm_r (nI_1 i) (ih n (i + 1) (k / 2) _ _ (by omega) (by omega) (by omega) (qs_so_i s (by omega) (by omega)) (qs_s2_s s f (by omega) c)))⟩
theorem xl_hu {post : SX → Prop} {N x : Nat} {P : Nat → Prop} (hN : N < 12) (hx : x < 49312) (hP : ¬ P x) (hS : qx_St 2 N eV cA P) (h : ∀ ev', (∀ cal, qx_St 2 (N + 1) ev' cal (fun y => P y ∨ y = x)) → post (mm, nw, nI N, sC, rU, aR, vC, vS, vN, jT, bG, lV, oJ, oB, oL, cV, wA, fR, ev', cA)) : wpX_addToHeap post (mm, nw, nI N, sC, rU, aR, vC, vS, vN, jT, bG, lV, oJ, oB, oL, cV, wA, fR, eV, cA) (nI x) := by
  obtain ⟨A, a1, a2, a3, a4⟩ := hS.1 (by omega)
  exact ⟨13, xl_hu_l hN hx h 12 13 0 N _ _ (by omega) (by omega) (by omega) (qs_so_0 a1 a2 hP hS.2.2 hx) (qs_up0 (a4 rfl))⟩
-- engine 2, down
theorem xl_hd_x {post : SX → Prop} {l x k : Nat} {P : Nat → Prop} {ev : Nat → Int32} {A : Nat → Nat} (hl : l < 12) (h : ∀ ev', (∀ cal, qx_St 2 l ev' cal P) → post (mm, nw, nc, sC, rU, aR, vC, vS, vN, jT, bG, lV, oJ, oB, oL, cV, wA, fR, ev', cA)) (s : qs_hd l k x ev P A) (hm : ∀ i, 0 < i → i < l → (i - 1) / 2 = k → x ≤ A i) : vp_in (nI k) 12 ∧ ∀ a : Nat → Int32, a = upd ev (nI k).toNatClampNeg (nI x) → post (mm, nw, nc, sC, rU, aR, vC, vS, vN, jT, bG, lV, oJ, oB, oL, cV, wA, fR, a, cA) := by
  have h4 := s.2.2.2.2.1
  have ek : (nI k).toNatClampNeg = k := nI_clamp (by omega)
  exact ⟨vp_in_nI (by omega) (by omega), nm_r (e' := upd ev k (nI x)) (by rw [ek]) (h _ (fun cal => qs_hd_e s hm))⟩
theorem xl_hd_j {post : SX → Prop} {l x k c i : Nat} {P : Nat → Prop} {ev : Nat → Int32} {A : Nat → Nat} {J : _} (hl : l < 12) (h : ∀ ev', (∀ cal, qx_St 2 l ev' cal P) → post (mm, nw, nc, sC, rU, aR, vC, vS, vN, jT, bG, lV, oJ, oB, oL, cV, wA, fR, ev', cA)) (s : qs_hd l k x ev P A) (hx : x < 49312) (hc : c = 2 * k + 1 ∨ (c = 2 * k + 2 ∧ c < l)) (hm : c < l → ∀ i, 0 < i → i < l → (i - 1) / 2 = k → A c ≤ A i)
    (hJ : ∀ ev' A', c < l → qs_hd l c x ev' P A' → J (nI c) (nI (i + 1)) sC rU aR vC vS vN jT bG lV oJ oB oL cV wA fR ev' cA) : wX_removeTopOfHeap_63 post J (nI l) (nI x) (nI k) (nI i) (nI c) mm nw nc sC rU aR vC vS vN jT bG lV oJ oB oL cV wA fR ev cA := by
  have h4 := s.2.2.2.2.1
  by_cases cl : c < l
  · have ek : (nI k).toNatClampNeg = k := nI_clamp (by omega)
    have ec : (nI c).toNatClampNeg = c := nI_clamp (by omega)
    have wk : vp_in (nI k) 12 := vp_in_nI (by omega) (by omega)
    have wc : vp_in (nI c) 12 := vp_in_nI (by omega) (by omega)
    obtain ⟨gc, bc⟩ := qs_hd_v s (j := c) cl (by omega)
    refine br_f (nI_ge cl (by omega)) ⟨wc, ?_⟩
    by_cases g : x < A c
    · refine br_f (by rw [ec, gc]; exact nI_ge g (by omega)) (xl_hd_x hl h s (fun j j0 hj hp => ?_))
      have := hm cl j j0 hj hp
      omega
    · refine br_t (by rw [ec, gc]; exact nI_le (by omega) (by omega)) ⟨wc, wk, nm_r (e' := upd ev k (nI (A c))) (by rw [ec, ek, gc]) (nm_r (nI_1 i) (hJ _ _ cl (qs_hd_s s (by omega) cl (by omega) (by omega) (hm cl))))⟩
  · refine br_t (nI_le (by omega) (by omega)) (xl_hd_x hl h s (fun j j0 hj hp => ?_))
    omega
theorem xl_hd_l {post : SX → Prop} {l x : Nat} {P : Nat → Prop} (hl : l < 12) (hx : x < 49312) (h : ∀ ev', (∀ cal, qx_St 2 l ev' cal P) → post (mm, nw, nc, sC, rU, aR, vC, vS, vN, jT, bG, lV, oJ, oB, oL, cV, wA, fR, ev', cA)) :
    ∀ (d n i k : Nat) (ev : Nat → Int32) (A : Nat → Nat), i + d = 12 → d < n → i ≤ k → qs_hd l k x ev P A → wX_removeTopOfHeap_19 post (nI l) (nI x) mm nw nc n (nI k) (nI i) sC rU aR vC vS vN jT bG lV oJ oB oL cV wA fR ev cA := by
  intro d
  induction d with
  | zero =>
    intro n i k ev A h1 h2 h3 s
    have h4 := s.2.2.2.2.1
    omega
  | succ d ih =>
    intro n i k ev A h1 h2 h3 s
    obtain ⟨n, rfl⟩ : ∃ m, n = m + 1 := ⟨n - 1, by omega⟩
    have h4 := s.2.2.2.2.1
    have e1 : 2 * nI k + 1 = nI (2 * k + 1) := by
      rw [show (2 : Int32) = nI 2 from rfl, pk_mul, nI_1]
    have e2 : nI (2 * k + 1) + 1 = nI (2 * k + 2) := nI_1 _
    rw [wX_removeTopOfHeap_19]
    refine br_f (nI_ge (b := 12) (by omega) (by decide)) (nm_r e1 ?_)
    have J : ∀ (c : Nat) (ev' : Nat → Int32) (A' : Nat → Nat), 2 * k + 1 ≤ c → c < l → qs_hd l c x ev' P A' → wX_removeTopOfHeap_19 post (nI l) (nI x) mm nw nc n (nI c) (nI (i + 1)) sC rU aR vC vS vN jT bG lV oJ oB oL cV wA fR ev' cA := fun c ev' A' hc _ s' => ih n (i + 1) c ev' A' (by omega) (by omega) (by omega) s'
    by_cases c2 : 2 * k + 2 < l
    · have ec : (nI (2 * k + 1)).toNatClampNeg = 2 * k + 1 := nI_clamp (by omega)
      have ec2 : (nI (2 * k + 1) + 1).toNatClampNeg = 2 * k + 2 := by rw [e2]; exact nI_clamp (by omega)
      have wc : vp_in (nI (2 * k + 1)) 12 := vp_in_nI (by omega) (by omega)
      have wc2 : vp_in (nI (2 * k + 1) + 1) 12 := by rw [e2]; exact vp_in_nI (by omega) (by omega)
      obtain ⟨g1, b1⟩ := qs_hd_v s (j := 2 * k + 1) (by omega) (by omega)
      obtain ⟨g2, b2⟩ := qs_hd_v s (j := 2 * k + 2) (by omega) (by omega)
      refine br_f (by rw [e2]; exact nI_ge (by omega) (by omega)) ⟨wc2, wc, ?_⟩
      by_cases g : A (2 * k + 2) < A (2 * k + 1)
      · refine br_f (by rw [ec, ec2, g1, g2]; exact nI_ge g (by omega)) (nm_r e2 (xl_hd_j hl h s hx (Or.inr ⟨rfl, c2⟩) (fun _ j j0 hj hp => ?_) (fun ev' A' hc s' => J _ ev' A' (by omega) hc s')))
        have : j = 2 * k + 1 ∨ j = 2 * k + 2 := by omega
        rcases this with e | e
        · rw [e]; omega
        · rw [e]; exact Nat.le_refl _
      · refine br_t (by rw [ec, ec2, g1, g2]; exact nI_le (by omega) (by omega)) (xl_hd_j hl h s hx (Or.inl rfl) (fun _ j j0 hj hp => ?_) (fun ev' A' hc s' => J _ ev' A' (by omega) hc s'))
        have : j = 2 * k + 1 ∨ j = 2 * k + 2 := by omega
        rcases this with e | e
        · rw [e]; exact Nat.le_refl _
        · rw [e]; omega
    · refine br_t (by rw [e2]; exact nI_le (by omega) (by omega)) (xl_hd_j hl h s hx (Or.inl rfl) (fun _ j j0 hj hp => ?_) (fun ev' A' hc s' => J _ ev' A' (by omega) hc s'))
      have e : j = 2 * k + 1 := by omega
      rw [e]; exact Nat.le_refl _
theorem xl_hd {post : SX → Prop} {l x : Nat} {P : Nat → Prop} {A : Nat → Nat} (hl : l < 12) (hA : ∀ i, i < l + 1 → eV i = nI (A i)) (hS : qs_St A (l + 1) P) (hh : qs_hp A (l + 1)) (hb : ∀ y, P y → y < 49312) (hx : A 0 = x) (h : ∀ ev', (∀ cal, qx_St 2 l ev' cal (fun y => P y ∧ y ≠ x)) → post (mm, nw, nI (l + 1), sC, rU, aR, vC, vS, vN, jT, bG, lV, oJ, oB, oL, cV, wA, fR, ev', cA)) : wpX_removeTopOfHeap post (mm, nw, nI (l + 1), sC, rU, aR, vC, vS, vN, jT, bG, lV, oJ, oB, oL, cV, wA, fR, eV, cA) := by
  have el : (nI l).toNatClampNeg = l := nI_clamp (by omega)
  have s := qs_hd_0 hA hS hh hb
  rw [hx] at s
  exact nm_r (nI_pred l) ⟨vp_in_nI (by omega) (by omega), nm_r (e' := nI (A l)) (by rw [el]; exact hA l (by omega)) ⟨13, xl_hd_l hl (hb _ (hS.1 l (by omega))) h 12 13 0 0 _ _ (by omega) (by omega) (by omega) s⟩⟩
-- engine 3
theorem xl_ci {J : Int32 → Prop} {post : Int32 → Prop} {x : Nat} {P : Nat → Prop} (hx2 : x < 49312) (hS : qs_Ca cA P) (hP : P x) (hm : ∀ y, P y → x ≤ y) (h : post (nI x)) :
    ∀ (d n k : Nat), k + d = x % 32 → d < n → wX_firstInCalendar_14 post J (nI (x / 32)) mm nw nc sC rU aR vC vS vN jT bG lV oJ oB oL cV wA fR eV cA n (nI k) := by
  have et : (nI (x / 32)).toNatClampNeg = x / 32 := nI_clamp (by omega)
  have wt : vp_in (nI (x / 32)) 1541 := vp_in_nI (by omega) (by omega)
  have ex : x / 32 * 32 + x % 32 = x := by omega
  have nz : ¬ cA (x / 32) = 0 := qs_Ca_nz (k := x % 32) hS (by omega) (by omega) (by rw [ex]; exact hP)
  intro d
  induction d with
  | zero =>
    intro n k h1 h2
    obtain ⟨n, rfl⟩ : ∃ m, n = m + 1 := ⟨n - 1, by omega⟩
    rw [wX_firstInCalendar_14]
    have hb : (cA (x / 32) >>> (nI k &&& 31)) &&& 1 = 1 := (qs_test (by omega)).mpr ((hS _ (by omega) k (by omega)).mpr (by rw [show k = x % 32 by omega, ex]; exact hP))
    refine br_f (nI_ge (b := 32) (by omega) (by decide)) ⟨wt, br_f (by rw [et]; exact nz) ⟨wt, br_t (by rw [et]; exact hb) ?_⟩⟩
    have e : nI (x / 32) * 32 + nI k = nI x := by
      rw [show (32 : Int32) = nI 32 from rfl, pk_mul, nI_add]
      congr 1
      omega
    rw [e]; exact h
  | succ d ih =>
    intro n k h1 h2
    obtain ⟨n, rfl⟩ : ∃ m, n = m + 1 := ⟨n - 1, by omega⟩
    rw [wX_firstInCalendar_14]
    have hb : ¬ (cA (x / 32) >>> (nI k &&& 31)) &&& 1 = 1 := fun z => by
      have h3 := (hS _ (by omega) k (by omega)).mp ((qs_test (by omega)).mp z)
      have h4 := hm _ h3
      omega
    exact br_f (nI_ge (b := 32) (by omega) (by decide)) ⟨wt, br_f (by rw [et]; exact nz) ⟨wt, br_f (by rw [et]; exact hb) (nm_r (nI_1 k) (ih n (k + 1) (by omega) (by omega)))⟩⟩
theorem xl_co {post : Int32 → Prop} {x : Nat} {P : Nat → Prop} (hx2 : x < 49312) (hS : qs_Ca cA P) (hP : P x) (hm : ∀ y, P y → x ≤ y) (h : post (nI x)) :
    ∀ (d n t : Nat), t + d = x / 32 → d < n → wX_firstInCalendar_5 post mm nw nc sC rU aR vC vS vN jT bG lV oJ oB oL cV wA fR eV cA n (nI t) := by
  intro d
  induction d with
  | zero =>
    intro n t h1 h2
    obtain ⟨n, rfl⟩ : ∃ m, n = m + 1 := ⟨n - 1, by omega⟩
    rw [wX_firstInCalendar_5]
    have e : t = x / 32 := by omega
    rw [e]
    exact br_f (nI_ge (b := 1541) (by omega) (by decide)) ⟨x % 32 + 1, xl_ci hx2 hS hP hm h (x % 32) (x % 32 + 1) 0 (by omega) (by omega)⟩
  | succ d ih =>
    intro n t h1 h2
    obtain ⟨n, rfl⟩ : ∃ m, n = m + 1 := ⟨n - 1, by omega⟩
    rw [wX_firstInCalendar_5]
    have et : (nI t).toNatClampNeg = t := nI_clamp (by omega)
    have wt : vp_in (nI t) 1541 := vp_in_nI (by omega) (by omega)
    have z : cA t = 0 := qs_Ca_z hS (by omega) (fun k hk hP' => by have := hm _ hP'; omega)
    refine br_f (nI_ge (b := 1541) (by omega) (by decide)) ⟨1, ?_⟩
    rw [wX_firstInCalendar_14]
    exact br_f (nI_ge (a := 0) (b := 32) (by omega) (by decide)) ⟨wt, br_t (by rw [et]; exact z) (nm_r (nI_1 t) (ih n (t + 1) (by omega) (by omega)))⟩
theorem xl_ca {post : Int32 → Prop} {x w : Nat} {P : Nat → Prop} (hx2 : x < 49312) (hS : qs_Ca cA P) (hP : P x) (hm : ∀ y, P y → x ≤ y) (hw : w * 32 ≤ x) (h : post (nI x)) : wpX_firstInCalendar post (mm, nI w, nc, sC, rU, aR, vC, vS, vN, jT, bG, lV, oJ, oB, oL, cV, wA, fR, eV, cA) :=
  ⟨x / 32 - w + 1, xl_co hx2 hS hP hm h (x / 32 - w) _ w (by omega) (by omega)⟩
end XS
end
section
section XE
variable {p : qp_T} {mm nw nc : Int32} {sC rU aR vC vS vN jT bG lV oJ oB oL cV wA fR eV cA : Nat → Int32}
theorem xl_e4 {e : Nat} (he : e < 4) : e = 0 ∨ e = 1 ∨ e = 2 ∨ e = 3 := by omega
theorem xl_d32 {x : Nat} (hx : x < 49312) : nI x / 32 = nI (x / 32) := pk_div (d := 32) (by omega) (by omega) (by omega)
theorem xl_r32 {x : Nat} (hx : x < 49312) : nI x - nI x / 32 * 32 = nI (x % 32) := pk_rem (d := 32) (by omega) (by omega) (by omega)
theorem xl_ad {post : SX → Prop} {e N x : Nat} {P : Nat → Prop} (he : e < 4) (hN : N < 12) (hx : x < 49312) (hP : ¬ P x) (hS : qx_St e N eV cA P) (h : ∀ ev' cal', qx_St e (N + 1) ev' cal' (fun y => P y ∨ y = x) → post (mm, nw, nI (N + 1), sC, rU, aR, vC, vS, vN, jT, bG, lV, oJ, oB, oL, cV, wA, fR, ev', cal')) : wpX_addEvent post (mm, nw, nI N, sC, rU, aR, vC, vS, vN, jT, bG, lV, oJ, oB, oL, cV, wA, fR, eV, cA) (nI e) (nI x) := by
  rcases xl_e4 he with rfl | rfl | rfl | rfl
  · exact br_t rfl ⟨vp_in_nI hN (by omega), nm_r (e' := upd eV N (nI x)) (by rw [nI_clamp (by omega)]) (nm_r (nI_1 N) (h _ _ (qs_ad0 hS hP hx)))⟩
  · exact br_f (by decide) (br_t rfl (xl_so hN hx hP hS (fun ev' s => nm_r (nI_1 N) (h _ _ (s _)))))
  · exact br_f (by decide) (br_f (by decide) (br_t rfl (xl_hu hN hx hP hS (fun ev' s => nm_r (nI_1 N) (h _ _ (s _))))))
  · have ed := xl_d32 hx
    have er := xl_r32 hx
    have ec : (nI x / 32).toNatClampNeg = x / 32 := by rw [ed]; exact nI_clamp (by omega)
    have w : vp_in (nI x / 32) 1541 := by rw [ed]; exact vp_in_nI (by omega) (by omega)
    exact br_f (by decide) (br_f (by decide) (br_f (by decide) ⟨by decide, w, by decide, w, nm_r (e' := upd cA (x / 32) (cA (x / 32) ||| ((1 : Int32) <<< (nI (x % 32) &&& 31)))) (by rw [ec, er]) (nm_r (nI_1 N) (h _ _ (qs_ad3 hS hx)))⟩))
theorem xl_fi {post : Int32 → Prop} {e N x w : Nat} {P : Nat → Prop} (he : e < 4) (h0 : 0 < N) (hN : N ≤ 12) (hx2 : x < 49312) (hS : qx_St e N eV cA P) (hP : P x) (hm : ∀ y, P y → x ≤ y) (hw : w * 32 ≤ x) (h : post (nI x)) : wpX_firstEvent post (mm, nI w, nI N, sC, rU, aR, vC, vS, vN, jT, bG, lV, oJ, oB, oL, cV, wA, fR, eV, cA) (nI e) := by
  rcases xl_e4 he with rfl | rfl | rfl | rfl
  · obtain ⟨A, a1, a2, a3, a4⟩ := hS.1 (by omega)
    refine br_t rfl (xl_pl h0 hN a1 (fun i hi => hS.2.2 _ (a2.1 i hi)) (fun q hq hl => ⟨vp_in_nI (by omega) (by omega), ?_⟩))
    have e : eV (nI q).toNatClampNeg = nI x := by rw [nI_clamp (by omega), a1 q hq, qs_fst a2 hq hl hP hm]
    rw [e]; exact h
  · obtain ⟨A, a1, a2, a3, a4⟩ := hS.1 (by omega)
    obtain ⟨N, rfl⟩ : ∃ m, N = m + 1 := ⟨N - 1, by omega⟩
    have e1 : nI (N + 1) - 1 = nI N := nI_pred N
    have hl : ∀ i, i < N + 1 → A N ≤ A i := fun i hi => by
      by_cases c : i = N
      · rw [c]; exact Nat.le_refl _
      · have := a3 rfl i N (by omega) (by omega); omega
    have e : eV (nI (N + 1) - 1).toNatClampNeg = nI x := by rw [e1, nI_clamp (by omega), a1 N (by omega), qs_fst a2 (by omega) hl hP hm]
    refine br_f (by decide) (br_t rfl ⟨by rw [e1]; exact vp_in_nI (by omega) (by omega), ?_⟩)
    rw [e]; exact h
  · obtain ⟨A, a1, a2, a3, a4⟩ := hS.1 (by omega)
    have e : eV 0 = nI x := by rw [a1 0 h0, qs_fst a2 h0 (qs_top (a4 rfl)) hP hm]
    refine br_f (by decide) (br_f (by decide) (br_t rfl ?_))
    rw [e]; exact h
  · exact br_f (by decide) (br_f (by decide) (br_f (by decide) (xl_ca hx2 (hS.2.1 (by omega)) hP hm hw h)))
theorem xl_re {post : SX → Prop} {e N x w : Nat} {P : Nat → Prop} (he : e < 4) (hN : N < 12) (hx2 : x < 49312) (hS : qx_St e (N + 1) eV cA P) (hP : P x) (hm : ∀ y, P y → x ≤ y) (hw : w * 32 ≤ x) (h : ∀ ev' cal', qx_St e N ev' cal' (fun y => P y ∧ y ≠ x) → post (mm, nI w, nI N, sC, rU, aR, vC, vS, vN, jT, bG, lV, oJ, oB, oL, cV, wA, fR, ev', cal')) : wpX_removeFirstEvent post (mm, nI w, nI (N + 1), sC, rU, aR, vC, vS, vN, jT, bG, lV, oJ, oB, oL, cV, wA, fR, eV, cA) (nI e) := by
  have e1 : nI (N + 1) - 1 = nI N := nI_pred N
  rcases xl_e4 he with rfl | rfl | rfl | rfl
  · obtain ⟨A, a1, a2, a3, a4⟩ := hS.1 (by omega)
    have en : (nI (N + 1) - 1).toNatClampNeg = N := by rw [e1]; exact nI_clamp (by omega)
    exact br_t rfl (xl_pl (by omega) (by omega) a1 (fun i hi => hS.2.2 _ (a2.1 i hi)) (fun q hq hl => ⟨by rw [e1]; exact vp_in_nI (by omega) (by omega), vp_in_nI (by omega) (by omega), nm_r (e' := upd eV q (eV N)) (by rw [en, nI_clamp (by omega)]) (nm_r e1 (h _ _ (qs_rm0 a1 a2 hS.2.2 (by omega) (qs_fst a2 hq hl hP hm))))⟩))
  · obtain ⟨A, a1, a2, a3, a4⟩ := hS.1 (by omega)
    have hl : ∀ i, i < N + 1 → A N ≤ A i := fun i hi => by
      by_cases c : i = N
      · rw [c]; exact Nat.le_refl _
      · have := a3 rfl i N (by omega) (by omega); omega
    exact br_f (by decide) (br_f (by decide) (br_t rfl (nm_r e1 (h _ _ (qs_rm1 a1 a2 (a3 rfl) hS.2.2 (qs_fst a2 (by omega) hl hP hm))))))
  · obtain ⟨A, a1, a2, a3, a4⟩ := hS.1 (by omega)
    exact br_f (by decide) (br_t rfl (xl_hd hN a1 a2 (a4 rfl) hS.2.2 (qs_fst a2 (by omega) (qs_top (a4 rfl)) hP hm) (fun ev' s => nm_r e1 (h _ _ (s _)))))
  · have ed := xl_d32 hx2
    have er := xl_r32 hx2
    have ec : (nI x / 32).toNatClampNeg = x / 32 := by rw [ed]; exact nI_clamp (by omega)
    have wx : vp_in (nI x / 32) 1541 := by rw [ed]; exact vp_in_nI (by omega) (by omega)
    exact br_f (by decide) (br_f (by decide) (br_f (by decide) (xl_ca hx2 (hS.2.1 (by omega)) hP hm hw ⟨by decide, wx, by decide, wx, nm_r (e' := upd cA (x / 32) (cA (x / 32) &&& (((1 : Int32) <<< (nI (x % 32) &&& 31)) ^^^ (-1)))) (by rw [ec, er]) (nm_r e1 (h _ _ (qs_rm3 hS)))⟩)))
end XE
end
section
theorem qn_pk_s0 {p : qp_T} {S : qn_S} {s c : Nat} (h : ¬ qn_wt p S s c = true) : qn_pk p S s (c + 1) = qn_pk p S s c := by
  rw [qn_pk]
  cases qn_pk p S s c with
  | none => dsimp only; rw [if_neg h]
  | some b => dsimp only; rw [if_neg (fun z => h z.1)]
theorem qn_pk_s1 {p : qp_T} {S : qn_S} {s c : Nat} (h : qn_wt p S s c = true) (e : qn_pk p S s c = none) : qn_pk p S s (c + 1) = some c := by
  rw [qn_pk, e]; dsimp only; rw [if_pos h]
theorem qn_pk_s2 {p : qp_T} {S : qn_S} {s c b : Nat} (h : qn_wt p S s c = true) (e : qn_pk p S s c = some b) (g : qn_gb p (qp_ru p s) S c b = true) : qn_pk p S s (c + 1) = some c := by
  rw [qn_pk, e]; dsimp only; rw [if_pos ⟨h, g⟩]
theorem qn_pk_s3 {p : qp_T} {S : qn_S} {s c b : Nat} (e : qn_pk p S s c = some b) (g : ¬ qn_gb p (qp_ru p s) S c b = true) : qn_pk p S s (c + 1) = some b := by
  rw [qn_pk, e]; dsimp only; rw [if_neg (fun z => g z.2)]
theorem xl_c4 (c k : Nat) : nI c * 4 + nI k = nI (4 * c + k) := by
  rw [show (4 : Int32) = nI 4 from rfl, pk_mul, nI_add, Nat.mul_comm]
section XR
variable {p : qp_T} {mm nw nc : Int32} {sC rU aR vC vS vN jT bG lV oJ oB oL cV wA fR eV cA : Nat → Int32}
theorem xl_h41 {post : SX → Prop} {t c k : Nat} (hc : c < 12) (hk : k ≤ qp_vc p c) (hv : qp_vc p c ≤ 4) (ec : cV c = nI (4 * c + k)) (h1 : k = qp_vc p c → post ((nI (qp_m p)), nI t, nc, (qp_SV p), (qp_RU p), (qp_AR p), (qp_VC p), (qp_VS p), (qp_VN p), jT, bG, upd lV c (nI t), oJ, oB, oL, cV, wA, fR, eV, cA))
    (h2 : k ≠ qp_vc p c → post ((nI (qp_m p)), nI t, nc, (qp_SV p), (qp_RU p), (qp_AR p), (qp_VC p), (qp_VS p), (qp_VN p), upd jT (4 * c + k) (nI t), bG, lV, oJ, oB, oL, cV, upd wA c (nI (qp_vs p (4 * c + k))), fR, eV, cA)) : wX_happen_41 post (nI c) (nI (qp_m p)) (nI t) nc (qp_SV p) (qp_RU p) (qp_AR p) (qp_VC p) (qp_VS p) (qp_VN p) jT bG lV oJ oB oL cV wA fR eV cA := by
  have w : vp_in (nI c) 12 := vp_in_nI hc (by omega)
  have e : (nI c).toNatClampNeg = c := nI_clamp (by omega)
  refine ⟨w, nm_r (e' := nI (4 * c + k)) (by rw [e, ec]) ⟨w, ?_⟩⟩
  have er : nI c * 4 + qp_VC p (nI c).toNatClampNeg = nI (4 * c + qp_vc p c) := by rw [e, qp_VCe, xl_c4]
  show (nI (4 * c + k) = nI c * 4 + qp_VC p (nI c).toNatClampNeg → _) ∧ (¬ nI (4 * c + k) = nI c * 4 + qp_VC p (nI c).toNatClampNeg → _)
  rw [er]
  have e4 : (nI (4 * c + k)).toNatClampNeg = 4 * c + k := nI_clamp (by omega)
  by_cases g : k = qp_vc p c
  · exact br_t (by rw [g]) ⟨w, nm_r (e' := upd lV c (nI t)) (by rw [e]) (h1 g)⟩
  · have w4 : vp_in (nI (4 * c + k)) 48 := vp_in_nI (by omega) (by omega)
    exact br_f (fun z => g (by have := (nI_eq (by omega) (by omega)).mp z; omega)) ⟨w4, nm_r (e' := upd jT (4 * c + k) (nI t)) (by rw [e4]) ⟨w4, w, nm_r (e' := upd wA c (nI (qp_vs p (4 * c + k)))) (by rw [e, e4, qp_VSe]) (h2 g)⟩⟩
theorem xl_ha {post : SX → Prop} {t c : Nat} {S : qn_S} (ok : qp_ok p) (K : qn_Ka p t S) (hc : c < qp_m p) (hh : qn_hs S c = true) (R : qx_R p S cV wA fR jT bG lV)
    (h : ∀ cv wa fr jt lv, qx_R p (qn_ev p t (qn_one c) S) cv wa fr jt bG lv → post ((nI (qp_m p)), nI t, nc, (qp_SV p), (qp_RU p), (qp_AR p), (qp_VC p), (qp_VS p), (qp_VN p), jt, bG, lv, oJ, oB, oL, cv, wa, fr, eV, cA)) : wpX_happen post ((nI (qp_m p)), nI t, nc, (qp_SV p), (qp_RU p), (qp_AR p), (qp_VC p), (qp_VS p), (qp_VN p), jT, bG, lV, oJ, oB, oL, cV, wA, fR, eV, cA) (nI (qn_mk S c)) := by
  have hm := ok.1
  have hv := (ok.2.2 c hc).2.1
  have wf := (K c hc).1
  have hn := qn_nk_le wf hh
  have hmk := qn_mk_lt (S := S) (c := c) (by omega)
  have em : nI (qn_mk S c) - nI (qn_mk S c) / 16 * 16 = nI c := by
    rw [show (16 : Int32) = nI 16 from rfl, pk_rem (by omega) (by omega) (by omega), hmk.2]
  have ecv := R.1 c hc
  have G : ∀ cv fr, (∀ d, d < qp_m p → cv d = if d = c then nI (4 * c + qn_nk S c) else cV d) → (∀ s, s < 4 → fr s = if qn_ph S c = 2 ∧ qp_vs p (qn_v S c) = s then fR s + 1 else fR s) → wX_happen_41 post (nI c) (nI (qp_m p)) (nI t) nc (qp_SV p) (qp_RU p) (qp_AR p) (qp_VC p) (qp_VS p) (qp_VN p) jT bG lV oJ oB oL cv wA fr eV cA := by
    intro cv fr h1 h2
    refine xl_h41 (by omega) hn hv (by rw [h1 c hc, if_pos rfl]) (fun g => h _ _ _ _ _ (qx_R_ev hc wf hh hv R h1 (fun d hd => ?_) h2 (fun _ _ _ _ _ => rfl) (fun z => absurd g z) (fun d hd z => pk_un (fun y => z ⟨y, g⟩)) (fun _ => pk_us))) (fun g => h _ _ _ _ _ (qx_R_ev hc wf hh hv R h1 (fun d hd => ?_) h2 (fun d k hd hk z => pk_un (fun y => z ?_)) (fun _ => pk_us) (fun _ _ _ => rfl) (fun z => absurd z g)))
    · rw [if_neg (fun z => z.2 g)]
    · by_cases e : d = c
      · rw [e, pk_us, if_pos ⟨rfl, g⟩]
      · rw [pk_un e, if_neg (fun z => e z.1)]
    · have e : d = c := by omega
      exact ⟨e, g, by omega⟩
  refine ⟨by decide, nm_r em ?_⟩
  rcases qn_hs_iff.mp hh with e0 | e2
  · have emk : qn_mk S c = 16 + c := by unfold qn_mk; rw [if_pos e0]
    rw [emk]
    refine br_t (nI_le (a := 16) (by omega) (by omega)) (G _ _ (fun d hd => ?_) (fun s hs => ?_))
    · by_cases e : d = c
      · rw [if_pos e, e, ecv, qn_nk_0 e0]; rfl
      · rw [if_neg e]
    · rw [if_neg (fun z => by have := z.1; omega)]
  · have emk : qn_mk S c = c := by unfold qn_mk; rw [if_neg (by omega)]
    rw [emk]
    have hcu := qn_cu4 ok K hc (Or.inr e2)
    have hvs : qp_vs p (qn_v S c) < 4 := ((ok.2.2 c hc).2.2 _ hcu.1).1
    have hv48 : qn_v S c < 48 := by unfold qn_v; omega
    have w : vp_in (nI c) 12 := vp_in_nI (by omega) (by omega)
    have e : (nI c).toNatClampNeg = c := nI_clamp (by omega)
    have e3 : cV (nI c).toNatClampNeg = nI (qn_v S c) := by rw [e, ecv]
    have e4 : (nI (qn_v S c)).toNatClampNeg = qn_v S c := nI_clamp (by omega)
    have e5 : qp_VS p (cV (nI c).toNatClampNeg).toNatClampNeg = nI (qp_vs p (qn_v S c)) := by rw [e3, e4, qp_VSe]
    have e6 : (nI (qp_vs p (qn_v S c))).toNatClampNeg = qp_vs p (qn_v S c) := nI_clamp (by omega)
    have w3 : vp_in (cV (nI c).toNatClampNeg) 48 := by rw [e3]; exact vp_in_nI hv48 (by omega)
    have w5 : vp_in (qp_VS p (cV (nI c).toNatClampNeg).toNatClampNeg) 4 := by rw [e5]; exact vp_in_nI hvs (by omega)
    refine br_f (nI_ge (b := 16) (by omega) (by decide)) ⟨w, w3, w5, w5, nm_r (e' := upd fR (qp_vs p (qn_v S c)) (fR (qp_vs p (qn_v S c)) + 1)) (by rw [e5, e6]) ⟨w, w, nm_r (e' := upd cV c (nI (4 * c + qn_nk S c))) (by rw [e3, e, nI_1, qn_nk_2 e2]; rfl) (G _ _ (fun d hd => ?_) (fun s hs => ?_))⟩⟩
    · by_cases f : d = c
      · rw [if_pos f, f, pk_us]
      · rw [if_neg f, pk_un f]
    · by_cases f : qp_vs p (qn_v S c) = s
      · rw [if_pos ⟨e2, f⟩, ← f, pk_us]
      · rw [if_neg (fun z => f z.2), pk_un (fun z => f z.symm)]
theorem xl_gb {post : Int32 → Prop} {r t s c b : Nat} {S : qn_S} (ok : qp_ok p) (K : qn_Ka p t S) (ht : t < 2001) (hc : c < qp_m p) (hb : b < qp_m p) (wc : qn_wt p S s c = true) (wb : qn_wt p S s b = true) (hr : r ≤ 2) (R : qx_R p S cV wA fR jT bG lV)
    (h1 : qn_gb p r S c b = true → post 1) (h0 : ¬ qn_gb p r S c b = true → post 0) : wpX_goesBefore post ((nI (qp_m p)), nw, nc, (qp_SV p), (qp_RU p), (qp_AR p), (qp_VC p), (qp_VS p), (qp_VN p), jT, bG, lV, oJ, oB, oL, cV, wA, fR, eV, cA) (nI r) (nI c) (nI b) := by
  have hm := ok.1
  obtain ⟨j1, j2, j3, j4, j5, j6⟩ := qx_jt ok K R.2.2.2 hc wc
  obtain ⟨i1, i2, i3, i4, i5, i6⟩ := qx_jt ok K R.2.2.2 hb wb
  have ec : (nI c).toNatClampNeg = c := nI_clamp (by omega)
  have eb : (nI b).toNatClampNeg = b := nI_clamp (by omega)
  have evc : (nI (qn_v S c)).toNatClampNeg = qn_v S c := nI_clamp (by omega)
  have evb : (nI (qn_v S b)).toNatClampNeg = qn_v S b := nI_clamp (by omega)
  have wvc : vp_in (nI (qn_v S c)) 48 := vp_in_nI j3 (by omega)
  have wvb : vp_in (nI (qn_v S b)) 48 := vp_in_nI i3 (by omega)
  refine ⟨vp_in_nI (by omega) (by omega), nm_r (e' := nI (qn_v S c)) (by rw [ec, R.1 c hc]) ⟨vp_in_nI (by omega) (by omega), nm_r (e' := nI (qn_v S b)) (by rw [eb, R.1 b hb]) ?_⟩⟩
  unfold qn_gb at h1 h0
  have G : (decide (qn_J S (qn_v S c) < qn_J S (qn_v S b)) = true → post 1) → (¬ decide (qn_J S (qn_v S c) < qn_J S (qn_v S b)) = true → post 0) → wX_goesBefore_65 post (nI (qn_v S c)) (nI (qn_v S b)) (nI (qp_m p)) nw nc (qp_SV p) (qp_RU p) (qp_AR p) (qp_VC p) (qp_VS p) (qp_VN p) jT bG lV oJ oB oL cV wA fR eV cA := by
    intro g1 g0
    refine ⟨wvc, wvb, ?_⟩
    by_cases g : qn_J S (qn_v S c) < qn_J S (qn_v S b)
    · exact br_f (by rw [evc, evb, j1, i1]; exact nI_ge g (by omega)) (g1 (decide_eq_true g))
    · exact br_t (by rw [evc, evb, j1, i1]; exact nI_le (by omega) (by omega)) (g0 (fun z => g (of_decide_eq_true z)))
  by_cases r1 : r = 1
  · rw [if_pos r1] at h1 h0
    refine br_t (by rw [r1]; rfl) ⟨wvc, wvb, ?_⟩
    by_cases g : qn_J S (qn_v S b) ≤ qn_J S (qn_v S c)
    · exact br_f (by rw [evc, evb, j1, i1]; exact nI_nlt g (by omega)) (h1 (decide_eq_true g))
    · exact br_t (by rw [evc, evb, j1, i1]; exact nI_lt (by omega) (by omega)) (h0 (fun z => g (of_decide_eq_true z)))
  · rw [if_neg r1] at h1 h0
    refine br_f (fun z => r1 ((nI_eq (b := 1) (by omega) (by omega)).mp z)) ?_
    by_cases r0 : r = 0
    · rw [if_pos (Or.inl r0)] at h1 h0
      exact br_t (by rw [r0]; rfl) (G h1 h0)
    · refine br_f (fun z => r0 ((nI_eq (b := 0) (by omega) (by omega)).mp z)) ⟨wvc, wvb, ?_⟩
      by_cases f : qp_vn p (qn_v S c) = qp_vn p (qn_v S b)
      · rw [if_pos (Or.inr f)] at h1 h0
        exact br_t (by rw [evc, evb, qp_VNe, qp_VNe, f]) (G h1 h0)
      · rw [if_neg (fun z => z.elim r0 f)] at h1 h0
        refine br_f (fun z => f (by rw [evc, evb, qp_VNe, qp_VNe] at z; exact (nI_eq (by omega) (by omega)).mp z)) ⟨wvc, wvb, ?_⟩
        by_cases g : qp_vn p (qn_v S c) < qp_vn p (qn_v S b)
        · exact br_f (by rw [evc, evb, qp_VNe, qp_VNe]; exact nI_ge g (by omega)) (h1 (decide_eq_true g))
        · exact br_t (by rw [evc, evb, qp_VNe, qp_VNe]; exact nI_le (by omega) (by omega)) (h0 (fun z => g (of_decide_eq_true z)))
theorem xl_ne_l {post : Int32 → Prop} {t s : Nat} {S : qn_S} (ok : qp_ok p) (K : qn_Ka p t S) (ht : t < 2001) (hs : s < 4) (R : qx_R p S cV wA fR jT bG lV) (h : post (qn_enc (qn_pk p S s (qp_m p)))) :
    ∀ (d n c : Nat), c + d = qp_m p → d < n → wX_nextToServe_4 post (nI s) (nI (qp_m p)) nw nc (qp_SV p) (qp_RU p) (qp_AR p) (qp_VC p) (qp_VS p) (qp_VN p) jT bG lV oJ oB oL cV wA fR eV cA n (qn_enc (qn_pk p S s c)) (nI c) := by
  have hm := ok.1
  intro d
  induction d with
  | zero =>
    intro n c h1 h2
    obtain ⟨n, rfl⟩ : ∃ m, n = m + 1 := ⟨n - 1, by omega⟩
    rw [wX_nextToServe_4]
    have e : c = qp_m p := by omega
    rw [e]
    exact br_t (nI_le (by omega) (by omega)) h
  | succ d ih =>
    intro n c h1 h2
    obtain ⟨n, rfl⟩ : ∃ m, n = m + 1 := ⟨n - 1, by omega⟩
    rw [wX_nextToServe_4]
    have ec : (nI c).toNatClampNeg = c := nI_clamp (by omega)
    have hw := qx_wt ok K (c := c) (by omega) hs (R.2.1 c (by omega))
    have I := ih n (c + 1) (by omega) (by omega)
    refine br_f (nI_ge (by omega) (by omega)) ⟨vp_in_nI (by omega) (by omega), ?_⟩
    by_cases w : qn_wt p S s c = true
    · refine br_t (by rw [ec]; exact hw.mpr w) ?_
      cases e : qn_pk p S s c with
      | none =>
        rw [qn_pk_s1 w e] at I
        exact br_t rfl (nm_r (nI_1 c) I)
      | some b =>
        obtain ⟨hb, wb⟩ := qn_pk_y e
        refine br_f (qn_enc_n b (by omega)) ⟨vp_in_nI hs (by omega), ?_⟩
        have er : qp_RU p (nI s).toNatClampNeg = nI (qp_ru p s) := by rw [nI_clamp (by omega), qp_RUe]
        rw [er]
        refine xl_gb ok K ht (by omega) (by omega) w wb (ok.2.1 s hs).2.2 R (fun g => ?_) (fun g => ?_)
        · rw [qn_pk_s2 w e g] at I
          exact br_f (by decide) (nm_r (nI_1 c) I)
        · rw [qn_pk_s3 e g] at I
          exact br_t rfl (nm_r (nI_1 c) I)
    · rw [qn_pk_s0 w] at I
      exact br_f (fun z => w (hw.mp (by rw [ec] at z; exact z))) (nm_r (nI_1 c) I)
theorem xl_ne {post : Int32 → Prop} {t s : Nat} {S : qn_S} (ok : qp_ok p) (K : qn_Ka p t S) (ht : t < 2001) (hs : s < 4) (R : qx_R p S cV wA fR jT bG lV) (h : post (qn_enc (qn_pk p S s (qp_m p)))) : wpX_nextToServe post ((nI (qp_m p)), nw, nc, (qp_SV p), (qp_RU p), (qp_AR p), (qp_VC p), (qp_VS p), (qp_VN p), jT, bG, lV, oJ, oB, oL, cV, wA, fR, eV, cA) (nI s) :=
  ⟨qp_m p + 1, xl_ne_l ok K ht hs R h (qp_m p) (qp_m p + 1) 0 (by omega) (by omega)⟩
end XR
end
section
section XT
variable {p : qp_T} {mm nw nc : Int32} {sC rU aR vC vS vN jT bG lV oJ oB oL cV wA fR eV cA : Nat → Int32}
theorem xl_ta_l {post : SX → Prop} {e t c0 : Nat} {S : qn_S} (ok : qp_ok p) (he : e < 4) (A : qn_A p t S) (h0 : qn_fi p t S c0 = true)
    (h : ∀ cv wa fr jt lv ev cal, qx_R p (qn_ev p t (qn_fi p t S) S) cv wa fr jt bG lv → qx_St e (qn_nh p (qn_ev p t (qn_fi p t S) S)) ev cal (qn_P p (qn_ev p t (qn_fi p t S) S)) → post ((nI (qp_m p)), nI t, nI (qn_nh p (qn_ev p t (qn_fi p t S) S)), (qp_SV p), (qp_RU p), (qp_AR p), (qp_VC p), (qp_VS p), (qp_VN p), jt, bG, lv, oJ, oB, oL, cv, wa, fr, ev, cal)) :
    ∀ (d n i : Nat) (D : Nat → Bool) (cv wa fr jt lv ev cal : Nat → Int32), (∀ c, D c = true → qn_fi p t S c = true) → i + d = 12 → d < n → i + qn_nh p (qn_ev p t D S) ≤ 12 → qx_R p (qn_ev p t D S) cv wa fr jt bG lv → qx_St e (qn_nh p (qn_ev p t D S)) ev cal (qn_P p (qn_ev p t D S)) →
    wX_takeEventsOfNow_2 post (nI e) n (nI i) (nI (qp_m p)) (nI t) (nI (qn_nh p (qn_ev p t D S))) (qp_SV p) (qp_RU p) (qp_AR p) (qp_VC p) (qp_VS p) (qp_VN p) jt bG lv oJ oB oL cv wa fr ev cal := by
  have hm := ok.1
  have E : ∀ (D : Nat → Bool) (cv wa fr jt lv ev cal : Nat → Int32), (∀ c, D c = true → qn_fi p t S c = true) → (∀ c, c < qp_m p → qn_hs (qn_ev p t D S) c = true → qn_tm p (qn_ev p t D S) c ≠ t) → qx_R p (qn_ev p t D S) cv wa fr jt bG lv → qx_St e (qn_nh p (qn_ev p t D S)) ev cal (qn_P p (qn_ev p t D S)) → post ((nI (qp_m p)), nI t, nI (qn_nh p (qn_ev p t D S)), (qp_SV p), (qp_RU p), (qp_AR p), (qp_VC p), (qp_VS p), (qp_VN p), jt, bG, lv, oJ, oB, oL, cv, wa, fr, ev, cal) := by
    intro D cv wa fr jt lv ev cal hD hn R X
    have eD := qn_D_all hD hn
    subst eD
    exact h cv wa fr jt lv ev cal R X
  intro d
  induction d with
  | zero =>
    intro n i D cv wa fr jt lv ev cal hD h1 h2 h3 R X
    obtain ⟨n, rfl⟩ : ∃ m, n = m + 1 := ⟨n - 1, by omega⟩
    rw [wX_takeEventsOfNow_2]
    exact br_t (nI_le (a := 12) (by omega) (by omega)) (E D cv wa fr jt lv ev cal hD (fun c hc hh => absurd hh (qn_nh_no (by omega) c hc)) R X)
  | succ d ih =>
    intro n i D cv wa fr jt lv ev cal hD h1 h2 h3 R X
    obtain ⟨n, rfl⟩ : ∃ m, n = m + 1 := ⟨n - 1, by omega⟩
    rw [wX_takeEventsOfNow_2]
    refine br_f (nI_ge (b := 12) (by omega) (by decide)) ?_
    rcases Nat.eq_zero_or_pos (qn_nh p (qn_ev p t D S)) with z | z
    · exact br_t (by rw [z]; exact nI_le (a := 0) (b := 0) (by omega) (by omega)) (E D cv wa fr jt lv ev cal hD (fun c hc hh => absurd hh (qn_nh_no z c hc)) R X)
    · obtain ⟨q1, q2, q3, q4, q5⟩ := qn_mid ok A hD h0
      obtain ⟨c, hc, hh, hl⟩ := qn_first z
      have hP : qn_P p (qn_ev p t D S) (qn_num p (qn_ev p t D S) c) := ⟨c, hc, hh, rfl⟩
      have hx := qn_num_lt ok q3 hc hh
      have hd := qn_num_d (p := p) (S := qn_ev p t D S) (c := c) (by omega)
      have hr := qn_num_m (p := p) (S := qn_ev p t D S) (c := c) (by omega)
      have hw : t * 32 ≤ qn_num p (qn_ev p t D S) c := by have := q5 c hc hh; omega
      refine br_f (nI_nle (by omega) (by omega)) (xl_fi he z (by omega) hx X hP hl hw ⟨by decide, ?_⟩)
      rw [xl_r32 hx, hr, xl_d32 hx, hd]
      by_cases ht : qn_tm p (qn_ev p t D S) c = t
      · obtain ⟨hDc, hfi⟩ := qn_D_in hc hh ht
        have en := qn_nh_ev (t := t) hc hh
        have e1 := qn_ev_one (p := p) (t := t) (S := S) hDc
        have eP := qn_P_ev (t := t) (S := qn_ev p t D S) ok hc
        rw [en] at X
        rw [en]
        refine br_t (by rw [ht]) (xl_re he (by omega) hx X hP hl hw (fun ev' cal' X' => ⟨by decide, xl_ha ok q1 hc hh R (fun cv' wa' fr' jt' lv' R' => nm_r (nI_1 i) ?_)⟩))
        rw [← eP, e1] at X'
        rw [e1] at R'
        rw [e1]
        exact ih n (i + 1) _ cv' wa' fr' jt' lv' ev' cal' (qn_D_or hD hfi) (by omega) (by omega) (by rw [e1] at en; omega) R' X'
      · refine br_f (fun y => ht ((nI_eq (by have := qn_tm_le ok q3 hc hh; omega) (by omega)).mp y)) (E D cv wa fr jt lv ev cal hD (fun d' hd' hh' y => ?_) R X)
        have h4 := qn_num_tm (by omega) (by omega) (hl _ ⟨d', hd', hh', rfl⟩)
        have h5 := q5 c hc hh
        omega
theorem xl_ta {post : SX → Prop} {e t c0 : Nat} {S : qn_S} (ok : qp_ok p) (he : e < 4) (A : qn_A p t S) (h0 : qn_fi p t S c0 = true) (R : qx_R p S cV wA fR jT bG lV) (X : qx_St e (qn_nh p S) eV cA (qn_P p S))
    (h : ∀ cv wa fr jt lv ev cal, qx_R p (qn_ev p t (qn_fi p t S) S) cv wa fr jt bG lv → qx_St e (qn_nh p (qn_ev p t (qn_fi p t S) S)) ev cal (qn_P p (qn_ev p t (qn_fi p t S) S)) → post ((nI (qp_m p)), nI t, nI (qn_nh p (qn_ev p t (qn_fi p t S) S)), (qp_SV p), (qp_RU p), (qp_AR p), (qp_VC p), (qp_VS p), (qp_VN p), jt, bG, lv, oJ, oB, oL, cv, wa, fr, ev, cal)) : wpX_takeEventsOfNow post ((nI (qp_m p)), nI t, nI (qn_nh p S), (qp_SV p), (qp_RU p), (qp_AR p), (qp_VC p), (qp_VS p), (qp_VN p), jT, bG, lV, oJ, oB, oL, cV, wA, fR, eV, cA) (nI e) := by
  have hm := ok.1
  have e0 : qn_ev p t (fun _ => false) S = S := qn_ev_none (fun _ => rfl)
  have L := xl_ta_l (bG := bG) (oJ := oJ) (oB := oB) (oL := oL) ok he A h0 h 12 13 0 (fun _ => false) cV wA fR jT lV eV cA (fun c hc => absurd hc (by decide)) (by omega) (by omega)
  rw [e0] at L
  have := qn_nh_le (p := p) (S := S)
  exact ⟨13, L (by omega) R X⟩
theorem xl_fs_l {post : SX → Prop} {e t s : Nat} {F : qn_S} (ok : qp_ok p) (he : e < 4) (hs : s < 4)
    (h : ∀ wa fr bg ev cal, qx_R p F cV wa fr jT bg lV → qx_St e (qn_nh p F) ev cal (qn_P p F) → post ((nI (qp_m p)), nI t, nI (qn_nh p F), (qp_SV p), (qp_RU p), (qp_AR p), (qp_VC p), (qp_VS p), (qp_VN p), jT, bg, lV, oJ, oB, oL, cV, wa, fr, ev, cal)) :
    ∀ (d n i : Nat) (S : qn_S) (wa fr bg ev cal : Nat → Int32), i + d = 3 → d < n → qn_fl p t s d S = F → qn_Q p t (t + 1) S → qx_R p S cV wa fr jT bg lV → qx_St e (qn_nh p S) ev cal (qn_P p S) →
    wX_fillServers_2 post (nI e) (nI s) n (nI i) (nI (qp_m p)) (nI t) (nI (qn_nh p S)) (qp_SV p) (qp_RU p) (qp_AR p) (qp_VC p) (qp_VS p) (qp_VN p) jT bg lV oJ oB oL cV wa fr ev cal := by
  have hm := ok.1
  intro d
  induction d with
  | zero =>
    intro n i S wa fr bg ev cal h1 h2 h3 Q R X
    obtain ⟨n, rfl⟩ : ∃ m, n = m + 1 := ⟨n - 1, by omega⟩
    rw [wX_fillServers_2]
    have eF : S = F := h3
    subst eF
    exact br_t (nI_le (a := 3) (by omega) (by omega)) (h wa fr bg ev cal R X)
  | succ d ih =>
    intro n i S wa fr bg ev cal h1 h2 h3 Q R X
    obtain ⟨n, rfl⟩ : ∃ m, n = m + 1 := ⟨n - 1, by omega⟩
    rw [wX_fillServers_2]
    have es : (nI s).toNatClampNeg = s := nI_clamp (by omega)
    have ws : vp_in (nI s) 4 := vp_in_nI hs (by omega)
    obtain ⟨f, hf, hfe⟩ := R.2.2.1 s hs
    have hsv := (ok.2.1 s hs).2.1
    have q4 := Q.2.2.2.1
    refine br_f (nI_ge (b := 3) (by omega) (by decide)) ⟨ws, ?_⟩
    rw [es, hf]
    by_cases f0 : f = 0
    · have eF : S = F := by rw [← h3, qn_fl_b (fun z => by omega)]
      rw [eF] at R X ⊢
      exact br_t (by rw [f0]; exact nI_le (a := 0) (b := 0) (by omega) (by omega)) (h wa fr bg ev cal R X)
    · refine br_f (nI_nle (by omega) (by omega)) (xl_ne ok Q.1 (by omega) hs R ?_)
      cases e1 : qn_pk p S s (qp_m p) with
      | none =>
        have eF : S = F := by rw [← h3, qn_fl_b (fun _ => e1)]
        rw [eF] at R X ⊢
        exact br_t rfl (h wa fr bg ev cal R X)
      | some c =>
        obtain ⟨hc, hw⟩ := qn_pk_y e1
        rw [qn_wt_iff] at hw
        have hlt : qn_nsg p S s < qp_sv p s := by omega
        have hcu := qn_cu4 ok Q.1 hc (Or.inl hw.1)
        have hvn := ((ok.2.2 c hc).2.2 _ hcu.1).2.2
        have hvn' : qp_vn p (qn_v S c) ≤ 30 := hvn
        have hv48 : qn_v S c < 48 := by unfold qn_v; omega
        have ec : (nI c).toNatClampNeg = c := nI_clamp (by omega)
        have wc : vp_in (nI c) 12 := vp_in_nI (by omega) (by omega)
        have ev4 : (nI (qn_v S c)).toNatClampNeg = qn_v S c := nI_clamp (by omega)
        have w4 : vp_in (nI (qn_v S c)) 48 := vp_in_nI hv48 (by omega)
        have Q' := qn_Q_beg ok hs Q hlt e1
        obtain ⟨eP, hP⟩ := qn_P_beg (t := t) ok Q.1 hc hw.1
        have en := qn_nh_beg (t := t) hc hw.1
        have hle := qn_nh_le (p := p) (S := qn_beg t S c)
        have enum : (nI t + qp_VN p (nI (qn_v S c)).toNatClampNeg) * 32 + nI c = nI ((t + qp_vn p (qn_v S c)) * 32 + c) := by
          rw [ev4, qp_VNe, nI_add, show (32 : Int32) = nI 32 from rfl, pk_mul, nI_add]
        have hx : (t + qp_vn p (qn_v S c)) * 32 + c < 49312 := by
          have := qn_P_lt ok Q'.2.2.1 (x := (t + qp_vn p (qn_v S c)) * 32 + c) (by rw [eP]; exact Or.inr rfl)
          exact this
        have ef : ∀ g, fr s = nI (g + 1) → nI f - 1 = nI g := fun g hg => by rw [← hf, hg]; exact nI_pred g
        have R' := qx_R_beg (t := t) (x := nI f - 1) ok Q.1 hc hw.1 hw.2 R ef hlt
        refine br_f (qn_enc_n c (by omega)) ⟨wc, nm_r (e' := nI (qn_v S c)) (by show cV (nI c).toNatClampNeg = _; rw [ec, R.1 c hc]) ⟨wc, nm_r (e' := upd wa c (-1)) (by show upd wa (nI c).toNatClampNeg (-1) = _; rw [ec]) ⟨ws, ws, nm_r (e' := upd fr s (nI f - 1)) rfl ⟨w4, nm_r (e' := upd bg (qn_v S c) (nI t)) (by rw [ev4]) ⟨w4, ?_⟩⟩⟩⟩⟩
        show wpX_addEvent _ _ (nI e) ((nI t + qp_VN p (nI (qn_v S c)).toNatClampNeg) * 32 + nI c)
        rw [enum]
        refine xl_ad he (by omega) hx hP X (fun ev' cal' X' => nm_r (nI_1 i) ?_)
        rw [← eP, ← en] at X'
        rw [← en]
        exact ih n (i + 1) _ _ _ _ ev' cal' (by omega) (by omega) (by rw [← h3, qn_fl_s hlt e1]) Q' R' X'
theorem xl_fs {post : SX → Prop} {e t s : Nat} {S : qn_S} (ok : qp_ok p) (he : e < 4) (hs : s < 4) (Q : qn_Q p t (t + 1) S) (R : qx_R p S cV wA fR jT bG lV) (X : qx_St e (qn_nh p S) eV cA (qn_P p S))
    (h : ∀ wa fr bg ev cal, qx_R p (qn_fl p t s 3 S) cV wa fr jT bg lV → qx_St e (qn_nh p (qn_fl p t s 3 S)) ev cal (qn_P p (qn_fl p t s 3 S)) → post ((nI (qp_m p)), nI t, nI (qn_nh p (qn_fl p t s 3 S)), (qp_SV p), (qp_RU p), (qp_AR p), (qp_VC p), (qp_VS p), (qp_VN p), jT, bg, lV, oJ, oB, oL, cV, wa, fr, ev, cal)) : wpX_fillServers post ((nI (qp_m p)), nI t, nI (qn_nh p S), (qp_SV p), (qp_RU p), (qp_AR p), (qp_VC p), (qp_VS p), (qp_VN p), jT, bG, lV, oJ, oB, oL, cV, wA, fR, eV, cA) (nI e) (nI s) :=
  ⟨4, xl_fs_l ok he hs h 3 4 0 S wA fR bG eV cA (by omega) (by omega) rfl Q R X⟩
end XT
end
section
theorem xl_vi {post : Int32 → Prop} {c k : Nat} (h : post (nI (4 * c + k))) : wpX_visitIndex post (nI c) (nI k) := by
  unfold wpX_visitIndex
  rw [xl_c4]
  exact h
theorem xl_vi0 {post : Int32 → Prop} {c : Nat} (h : post (nI (4 * c))) : wpX_visitIndex post (nI c) 0 := xl_vi (k := 0) h
section XU
variable {p : qp_T} {mm nw nc : Int32} {sC rU aR vC vS vN jT bG lV oJ oB oL cV wA fR eV cA : Nat → Int32}
theorem xl_s59 {post : SX → Prop} {e : Nat} (ok : qp_ok p) (he : e < 4) (hfr : ∀ s, s < 4 → fR s = nI (qp_sv p s))
    (h : ∀ cv wa ev cal, qx_R p qn_0 cv wa fR jT bG lV → qx_St e (qp_m p) ev cal (qn_P p qn_0) → post ((nI (qp_m p)), 0, nI (qp_m p), (qp_SV p), (qp_RU p), (qp_AR p), (qp_VC p), (qp_VS p), (qp_VN p), jT, bG, lV, oJ, oB, oL, cv, wa, fR, ev, cal)) :
    ∀ (d n c : Nat) (cv wa ev cal : Nat → Int32), c + d = qp_m p → d < n → (∀ b, b < c → cv b = nI (4 * b)) → (∀ b, b < c → wa b = -1) → qx_St e c ev cal (qx_Pi p c) → wX_startRun_59 post (nI e) n (nI c) (nI (qp_m p)) 0 (nI c) (qp_SV p) (qp_RU p) (qp_AR p) (qp_VC p) (qp_VS p) (qp_VN p) jT bG lV oJ oB oL cv wa fR ev cal := by
  have hm := ok.1
  intro d
  induction d with
  | zero =>
    intro n c cv wa ev cal h1 h2 h3 h4 X
    obtain ⟨n, rfl⟩ : ∃ m, n = m + 1 := ⟨n - 1, by omega⟩
    rw [wX_startRun_59]
    have ec : c = qp_m p := by omega
    subst ec
    rw [qx_Pi_m] at X
    exact br_t (nI_le (by omega) (by omega)) (h cv wa ev cal (qx_R0 h3 h4 hfr) X)
  | succ d ih =>
    intro n c cv wa ev cal h1 h2 h3 h4 X
    obtain ⟨n, rfl⟩ : ∃ m, n = m + 1 := ⟨n - 1, by omega⟩
    rw [wX_startRun_59]
    have ec : (nI c).toNatClampNeg = c := nI_clamp (by omega)
    have w : vp_in (nI c) 12 := vp_in_nI (by omega) (by omega)
    have har := (ok.2.2 c (by omega)).1
    have en : qp_AR p (nI c).toNatClampNeg * 32 + 16 + nI c = nI (qp_ar p c * 32 + 16 + c) := by
      rw [ec, qp_ARe, show (32 : Int32) = nI 32 from rfl, pk_mul, show (16 : Int32) = nI 16 from rfl, nI_add, nI_add]
    obtain ⟨eP, hP⟩ := qx_Pi_s (p := p) (i := c) (by omega)
    refine br_f (nI_ge (by omega) (by omega)) (xl_vi0 ⟨w, nm_r (e' := upd cv c (nI (4 * c))) (by rw [ec]) ⟨w, nm_r (e' := upd wa c (-1)) (by rw [ec]) ⟨w, ?_⟩⟩⟩)
    rw [en]
    refine xl_ad he (by omega) (by omega) hP X (fun ev' cal' X' => nm_r (nI_1 c) ?_)
    rw [← eP] at X'
    refine ih n (c + 1) _ _ ev' cal' (by omega) (by omega) (fun b hb => ?_) (fun b hb => ?_) X'
    · by_cases f : b = c
      · rw [f, pk_us]
      · rw [pk_un f]; exact h3 b (by omega)
    · by_cases f : b = c
      · rw [f, pk_us]
      · rw [pk_un f]; exact h4 b (by omega)
theorem xl_s34 {post : SX → Prop} {e : Nat} (h : ∀ fr, (∀ s, s < 4 → fr s = nI (qp_sv p s)) → ∃ n, wX_startRun_59 post (nI e) n 0 (nI (qp_m p)) 0 0 (qp_SV p) (qp_RU p) (qp_AR p) (qp_VC p) (qp_VS p) (qp_VN p) jT bG lV oJ oB oL cV wA fr eV cA) :
    ∀ (d n i : Nat) (fr : Nat → Int32), i + d = 4 → d < n → (∀ s, s < i → fr s = nI (qp_sv p s)) → wX_startRun_34 post (nI e) (nI (qp_m p)) 0 0 n (nI i) (qp_SV p) (qp_RU p) (qp_AR p) (qp_VC p) (qp_VS p) (qp_VN p) jT bG lV oJ oB oL cV wA fr eV cA := by
  intro d
  induction d with
  | zero =>
    intro n i fr h1 h2 h3
    obtain ⟨n, rfl⟩ : ∃ m, n = m + 1 := ⟨n - 1, by omega⟩
    rw [wX_startRun_34]
    exact br_t (nI_le (a := 4) (by omega) (by omega)) (h fr (fun s hs => h3 s (by omega)))
  | succ d ih =>
    intro n i fr h1 h2 h3
    obtain ⟨n, rfl⟩ : ∃ m, n = m + 1 := ⟨n - 1, by omega⟩
    rw [wX_startRun_34]
    have w : vp_in (nI i) 4 := vp_in_nI (by omega) (by omega)
    have ei : (nI i).toNatClampNeg = i := nI_clamp (by omega)
    refine br_f (nI_ge (b := 4) (by omega) (by decide)) ⟨w, w, nm_r (e' := upd fr i (nI (qp_sv p i))) (by rw [ei, qp_SVe]) (nm_r (nI_1 i) (ih n (i + 1) _ (by omega) (by omega) (fun s hs => ?_)))⟩
    by_cases f : s = i
    · rw [f, pk_us]
    · rw [pk_un f]; exact h3 s (by omega)
theorem xl_s12 {post : SX → Prop} {e : Nat} (h : ∀ cal, (∀ t, t < 1541 → cal t = 0) → ∃ n, wX_startRun_34 post (nI e) (nI (qp_m p)) 0 0 n 0 (qp_SV p) (qp_RU p) (qp_AR p) (qp_VC p) (qp_VS p) (qp_VN p) jT bG lV oJ oB oL cV wA fR eV cal) :
    ∀ (d n i : Nat) (cal : Nat → Int32), i + d = 1541 → d < n → (∀ t, t < i → cal t = 0) → wX_startRun_12 post (nI e) (nI (qp_m p)) 0 0 n (nI i) (qp_SV p) (qp_RU p) (qp_AR p) (qp_VC p) (qp_VS p) (qp_VN p) jT bG lV oJ oB oL cV wA fR eV cal := by
  intro d
  induction d with
  | zero =>
    intro n i cal h1 h2 h3
    obtain ⟨n, rfl⟩ : ∃ m, n = m + 1 := ⟨n - 1, by omega⟩
    rw [wX_startRun_12]
    exact br_t (nI_le (a := 1541) (by omega) (by omega)) (h cal (fun t ht => h3 t (by omega)))
  | succ d ih =>
    intro n i cal h1 h2 h3
    obtain ⟨n, rfl⟩ : ∃ m, n = m + 1 := ⟨n - 1, by omega⟩
    rw [wX_startRun_12]
    have ei : (nI i).toNatClampNeg = i := nI_clamp (by omega)
    refine br_f (nI_ge (b := 1541) (by omega) (by decide)) ⟨vp_in_nI (by omega) (by omega), nm_r (e' := upd cal i 0) (by rw [ei]) (nm_r (nI_1 i) (ih n (i + 1) _ (by omega) (by omega) (fun t ht => ?_)))⟩
    by_cases f : t = i
    · rw [f, pk_us]
    · rw [pk_un f]; exact h3 t (by omega)
theorem xl_sr {post : SX → Prop} {e : Nat} (ok : qp_ok p) (he : e < 4)
    (h : ∀ cv wa fr ev cal, qx_R p qn_0 cv wa fr jT bG lV → qx_St e (qp_m p) ev cal (qn_P p qn_0) → post ((nI (qp_m p)), 0, nI (qp_m p), (qp_SV p), (qp_RU p), (qp_AR p), (qp_VC p), (qp_VS p), (qp_VN p), jT, bG, lV, oJ, oB, oL, cv, wa, fr, ev, cal)) : wpX_startRun post ((nI (qp_m p)), nw, nc, (qp_SV p), (qp_RU p), (qp_AR p), (qp_VC p), (qp_VS p), (qp_VN p), jT, bG, lV, oJ, oB, oL, cV, wA, fR, eV, cA) (nI e) := by
  have hm := ok.1
  refine ⟨1542, xl_s12 (fun cal hz => ⟨5, xl_s34 (fun fr hfr => ⟨qp_m p + 1, xl_s59 ok he hfr (fun cv wa ev cal' R X => h cv wa fr ev cal' R X) (qp_m p) (qp_m p + 1) 0 cV wA eV cal (by omega) (by omega) (fun b hb => absurd hb (by omega)) (fun b hb => absurd hb (by omega)) ?_⟩) 4 5 0 fR (by omega) (by omega) (fun s hs => absurd hs (by omega))⟩) 1541 1542 0 cA (by omega) (by omega) (fun t ht => absurd ht (by omega))⟩
  refine ⟨fun _ => ⟨fun _ => 0, fun i hi => absurd hi (by omega), ⟨fun i hi => absurd hi (by omega), fun y hy => absurd hy (qx_Pi_0 y), fun i j _ hj => absurd hj (by omega)⟩, fun _ i j _ hj => absurd hj (by omega), fun _ i _ hi => absurd hi (by omega)⟩, fun _ => qs_Ca0 hz (fun y => qx_Pi_0 y), fun y hy => absurd hy (qx_Pi_0 y)⟩
theorem xl_r39 {post : SX → Prop} {J7 : _} {e t i : Nat} {S : qn_S} (ok : qp_ok p) (he : e < 4) (Q : qn_Q p t (t + 1) S)
    (h : ∀ wa fr bg ev cal, qx_R p (qn_fs p t S 4) cV wa fr jT bg lV → qx_St e (qn_nh p (qn_fs p t S 4)) ev cal (qn_P p (qn_fs p t S 4)) → J7 (nI (i + 1)) (nI (qp_m p)) (nI t) (nI (qn_nh p (qn_fs p t S 4))) (qp_SV p) (qp_RU p) (qp_AR p) (qp_VC p) (qp_VS p) (qp_VN p) jT bg lV oJ oB oL cV wa fr ev cal) :
    ∀ (d n s : Nat) (wa fr bg ev cal : Nat → Int32), s + d = 4 → d < n → qx_R p (qn_fs p t S s) cV wa fr jT bg lV → qx_St e (qn_nh p (qn_fs p t S s)) ev cal (qn_P p (qn_fs p t S s)) → wX_run_39 post J7 (nI e) (nI i) n (nI s) (nI (qp_m p)) (nI t) (nI (qn_nh p (qn_fs p t S s))) (qp_SV p) (qp_RU p) (qp_AR p) (qp_VC p) (qp_VS p) (qp_VN p) jT bg lV oJ oB oL cV wa fr ev cal := by
  intro d
  induction d with
  | zero =>
    intro n s wa fr bg ev cal h1 h2 R X
    obtain ⟨n, rfl⟩ : ∃ m, n = m + 1 := ⟨n - 1, by omega⟩
    rw [wX_run_39]
    have es : s = 4 := by omega
    subst es
    exact br_t (nI_le (a := 4) (b := 4) (by omega) (by omega)) (nm_r (nI_1 i) (h wa fr bg ev cal R X))
  | succ d ih =>
    intro n s wa fr bg ev cal h1 h2 R X
    obtain ⟨n, rfl⟩ : ∃ m, n = m + 1 := ⟨n - 1, by omega⟩
    rw [wX_run_39]
    exact br_f (nI_ge (b := 4) (by omega) (by decide)) (xl_fs ok he (by omega) (qn_Q_fs ok Q s (by omega)) R X (fun wa' fr' bg' ev' cal' R' X' => nm_r (nI_1 s) (ih n (s + 1) wa' fr' bg' ev' cal' (by omega) (by omega) R' X')))
theorem xl_run_l {post : SX → Prop} {e : Nat} (ok : qp_ok p) (he : e < 4)
    (h : ∀ nw' nc' jt bg lv cv wa fr ev cal, qn_Rs p jt bg lv → post ((nI (qp_m p)), nw', nc', (qp_SV p), (qp_RU p), (qp_AR p), (qp_VC p), (qp_VS p), (qp_VN p), jt, bg, lv, oJ, oB, oL, cv, wa, fr, ev, cal)) :
    ∀ (d n i T w : Nat) (jt bg lv cv wa fr ev cal : Nat → Int32), i + d = 60 → d < n → T ≤ 1541 → w ≤ T → i + qn_Phi p (qn_ps p T) ≤ 60 → qx_R p (qn_ps p T) cv wa fr jt bg lv → qx_St e (qn_nh p (qn_ps p T)) ev cal (qn_P p (qn_ps p T)) →
    wX_run_7 post (nI e) n (nI i) (nI (qp_m p)) (nI w) (nI (qn_nh p (qn_ps p T))) (qp_SV p) (qp_RU p) (qp_AR p) (qp_VC p) (qp_VS p) (qp_VN p) jt bg lv oJ oB oL cv wa fr ev cal := by
  have hm := ok.1
  have E : ∀ (T : Nat) (nw' : Int32) (jt bg lv cv wa fr ev cal : Nat → Int32), T ≤ 1541 → qn_nh p (qn_ps p T) = 0 → qx_R p (qn_ps p T) cv wa fr jt bg lv → post ((nI (qp_m p)), nw', nI (qn_nh p (qn_ps p T)), (qp_SV p), (qp_RU p), (qp_AR p), (qp_VC p), (qp_VS p), (qp_VN p), jt, bg, lv, oJ, oB, oL, cv, wa, fr, ev, cal) := by
    intro T nw' jt bg lv cv wa fr ev cal hT hz R
    have A := qn_A_ps ok T
    exact h _ _ _ _ _ _ _ _ _ _ (qn_Tm_R ok (by omega) (qn_all3 ok A.1 A.2.2.2.2 (qn_nh_no hz)) R.2.2.2)
  intro d
  induction d with
  | zero =>
    intro n i T w jt bg lv cv wa fr ev cal h1 h2 h3 h4 h5 R X
    obtain ⟨n, rfl⟩ : ∃ m, n = m + 1 := ⟨n - 1, by omega⟩
    rw [wX_run_7]
    exact br_t (nI_le (a := 60) (by omega) (by omega)) (E T _ jt bg lv cv wa fr ev cal h3 (qn_Phi_0 (qn_wfa (qn_A_ps ok T).1) (by omega)) R)
  | succ d ih =>
    intro n i T w jt bg lv cv wa fr ev cal h1 h2 h3 h4 h5 R X
    obtain ⟨n, rfl⟩ : ∃ m, n = m + 1 := ⟨n - 1, by omega⟩
    rw [wX_run_7]
    have hle := qn_nh_le (p := p) (S := qn_ps p T)
    refine br_f (nI_ge (b := 60) (by omega) (by decide)) ?_
    rcases Nat.eq_zero_or_pos (qn_nh p (qn_ps p T)) with z | z
    · exact br_t (by rw [z]; exact nI_le (a := 0) (b := 0) (by omega) (by omega)) (E T _ jt bg lv cv wa fr ev cal h3 z R)
    · obtain ⟨c, hc, hh, hl⟩ := qn_first z
      obtain ⟨a1, a2, a3, a4, a5⟩ := qn_A_ps ok T
      have hx := qn_num_lt ok a3 hc hh
      have htl := qn_tm_le ok a3 hc hh
      have hd := qn_num_d (p := p) (S := qn_ps p T) (c := c) (by omega)
      obtain ⟨hT, hps⟩ := qn_next ok hc hh hl
      have hw : w * 32 ≤ qn_num p (qn_ps p T) c := by omega
      refine br_f (nI_nle (by omega) (by omega)) (xl_fi he z (by omega) hx X ⟨c, hc, hh, rfl⟩ hl hw ⟨by decide, nm_r (e' := nI (qn_tm p (qn_ps p T) c)) (by rw [xl_d32 hx, hd]) ?_⟩)
      generalize ht : qn_tm p (qn_ps p T) c = t at *
      have A := qn_A_ps ok t
      rw [hps] at A
      have hfi : qn_fi p t (qn_ps p T) c = true := qn_fi_iff.mpr ⟨hc, hh, ht⟩
      have hst : qn_ps p (t + 1) = qn_fs p t (qn_ev p t (qn_fi p t (qn_ps p T)) (qn_ps p T)) 4 := by
        show qn_st p t (qn_ps p t) = _
        rw [hps]; rfl
      have hPhi := qn_Phi_st (t := t) (qn_wfa a1) hfi
      have hPhi2 : qn_Phi p (qn_ps p (t + 1)) + 1 ≤ qn_Phi p (qn_ps p T) := by
        show qn_Phi p (qn_st p t (qn_ps p t)) + 1 ≤ _
        rw [hps]; exact hPhi
      refine xl_ta ok he A hfi R X (fun cv' wa' fr' jt' lv' ev' cal' R' X' => ⟨5, xl_r39 ok he (qn_mid1 ok A hfi) (fun wa2 fr2 bg2 ev2 cal2 R2 X2 => ?_) 4 5 0 wa' fr' bg ev' cal' (by omega) (by omega) R' X'⟩)
      rw [← hst] at R2 X2
      rw [← hst]
      exact ih n (i + 1) (t + 1) t jt' bg2 lv' cv' wa2 fr2 ev2 cal2 (by omega) (by omega) (by omega) (by omega) (by omega) R2 X2
theorem xl_run {post : SX → Prop} {e : Nat} (ok : qp_ok p) (he : e < 4)
    (h : ∀ nw' nc' jt bg lv cv wa fr ev cal, qn_Rs p jt bg lv → post ((nI (qp_m p)), nw', nc', (qp_SV p), (qp_RU p), (qp_AR p), (qp_VC p), (qp_VS p), (qp_VN p), jt, bg, lv, oJ, oB, oL, cv, wa, fr, ev, cal)) : wpX_run post ((nI (qp_m p)), nw, nc, (qp_SV p), (qp_RU p), (qp_AR p), (qp_VC p), (qp_VS p), (qp_VN p), jT, bG, lV, oJ, oB, oL, cV, wA, fR, eV, cA) (nI e) := by
  refine xl_sr (nw := nw) (nc := nc) ok he (fun cv wa fr ev cal R X => ⟨61, ?_⟩)
  have L := xl_run_l (oJ := oJ) (oB := oB) (oL := oL) ok he h 60 61 0 0 0 jT bG lV cv wa fr ev cal (by omega) (by omega) (by omega) (by omega) (by have := qn_Phi_le (S := qn_ps p 0) ok; omega) R
  have e0 : qn_nh p (qn_ps p 0) = qp_m p := qn_nh_0
  rw [e0] at L
  exact L X
end XU
end
section
theorem qq_RJ {p : qp_T} {jT bG lV : Nat → Int32} (Rs : qn_Rs p jT bG lV) {c k : Nat} (hc : c < qp_m p) (hk : k < qp_vc p c) : jT (4 * c + k) = nI (qq_J p (4 * c + k)) ∧ bG (4 * c + k) = nI (qq_B p (4 * c + k)) := (Rs c hc).2 k hk
theorem qq_RL {p : qp_T} {jT bG lV : Nat → Int32} (Rs : qn_Rs p jT bG lV) {c : Nat} (hc : c < qp_m p) : lV c = nI (qq_L p c) := (Rs c hc).1
theorem qq_fb {p : qp_T} (ok : qp_ok p) {c k : Nat} (hc : c < qp_m p) (hk : k < qp_vc p c) : qq_J p (4 * c + k) ≤ qq_B p (4 * c + k) ∧ qq_B p (4 * c + k) ≤ qq_E p (4 * c + k) ∧ qq_E p (4 * c + k) ≤ 1540 ∧ 4 * c + k < 48 ∧ qp_vs p (4 * c + k) < 4 := by
  have hm := ok.1
  have hv := (ok.2.2 c hc).2.1
  have h1 := qq_f ok (i := 4 * c + k) (by rw [qn_d4 (by omega)]; exact hc) (by rw [qn_d4 (by omega), qn_m4 (by omega)]; exact hk)
  have h2 := ((ok.2.2 c hc).2.2 k hk).1
  have h3 : qq_E p (4 * c + k) = qq_B p (4 * c + k) + qp_vn p (4 * c + k) := rfl
  omega
section XA
variable {p : qp_T} {mm nw nc : Int32} {sC rU aR vC vS vN jT bG lV oJ oB oL cV wA fR eV cA : Nat → Int32}
theorem xq_en {post : Int32 → Prop} {i b : Nat} (hi : i < 48) (hb : bG i = nI b) (h : post (nI (b + qp_vn p i))) : wpX_endTime post ((nI (qp_m p)), nw, nc, (qp_SV p), (qp_RU p), (qp_AR p), (qp_VC p), (qp_VS p), (qp_VN p), jT, bG, lV, oJ, oB, oL, cV, wA, fR, eV, cA) (nI i) := by
  have e : (nI i).toNatClampNeg = i := nI_clamp (by omega)
  have w : vp_in (nI i) 48 := vp_in_nI hi (by omega)
  refine ⟨w, w, ?_⟩
  rw [e, hb, qp_VNe, nI_add]
  exact h
theorem xq_cp_i {post : Int32 → Prop} {J5 : _} {s t c : Nat} (ok : qp_ok p) (Rs : qn_Rs p jT bG lV) (hs : s < 4) (ht : t ≤ 10000) (hc : c < qp_m p) (hJ : J5 (nI (qs_cnt (qq_do p s t 0) (4 * (c + 1)))) (nI (c + 1))) :
    ∀ (d n k : Nat), k + d = qp_vc p c → d < n → wX_countPresent_17 post J5 (nI s) (nI t) (nI c) (nI (qp_m p)) nw nc (qp_SV p) (qp_RU p) (qp_AR p) (qp_VC p) (qp_VS p) (qp_VN p) jT bG lV oJ oB oL cV wA fR eV cA n (nI (qs_cnt (qq_do p s t 0) (4 * c + k))) (nI k) := by
  have hm := ok.1
  have hv := (ok.2.2 c hc).2.1
  have e : (nI c).toNatClampNeg = c := nI_clamp (by omega)
  have w : vp_in (nI c) 12 := vp_in_nI (by omega) (by omega)
  intro d
  induction d with
  | zero =>
    intro n k h1 h2
    obtain ⟨n, rfl⟩ : ∃ m, n = m + 1 := ⟨n - 1, by omega⟩
    rw [wX_countPresent_17]
    refine ⟨w, ?_⟩
    rw [e, qp_VCe]
    have ek : k = qp_vc p c := by omega
    subst ek
    rw [qq_c_in hv] at hJ
    exact br_t (nI_le (by omega) (by omega)) (nm_r (nI_1 c) hJ)
  | succ d ih =>
    intro n k h1 h2
    obtain ⟨n, rfl⟩ : ∃ m, n = m + 1 := ⟨n - 1, by omega⟩
    rw [wX_countPresent_17]
    refine ⟨w, ?_⟩
    rw [e, qp_VCe]
    have hk : k < qp_vc p c := by omega
    have I := ih n (k + 1) (by omega) (by omega)
    rw [show 4 * c + (k + 1) = 4 * c + k + 1 from rfl] at I
    obtain ⟨b1, b2, b3, b4, b5⟩ := qq_fb ok hc hk
    obtain ⟨rj, rb⟩ := qq_RJ Rs hc hk
    have hd := qq_do_0 (s := s) (t := t) hc hk hv
    have ei : (nI (4 * c + k)).toNatClampNeg = 4 * c + k := nI_clamp (by omega)
    have wi : vp_in (nI (4 * c + k)) 48 := vp_in_nI b4 (by omega)
    refine br_f (nI_ge hk (by omega)) (xl_vi ⟨wi, ?_⟩)
    rw [ei, qp_VSe, rj]
    by_cases g1 : qp_vs p (4 * c + k) = s
    · refine br_t (by rw [g1]) ⟨wi, ?_⟩
      by_cases g2 : qq_J p (4 * c + k) ≤ t
      · refine br_f (nI_nlt g2 (by omega)) (xq_en b4 rb ?_)
        show (nI (qq_E p (4 * c + k)) ≤ nI t → _) ∧ (¬ nI (qq_E p (4 * c + k)) ≤ nI t → _)
        by_cases g3 : t < qq_E p (4 * c + k)
        · rw [qs_cnt_t (hd.mpr ⟨g1, g2, g3⟩)] at I
          exact br_f (nI_ge g3 (by omega)) (nm_r (nI_1 _) (nm_r (nI_1 k) I))
        · rw [qs_cnt_f (fun z => g3 (hd.mp z).2.2)] at I
          exact br_t (nI_le (by omega) (by omega)) (nm_r (nI_1 k) I)
      · rw [qs_cnt_f (fun z => g2 (hd.mp z).2.1)] at I
        exact br_t (nI_lt (by omega) (by omega)) (nm_r (nI_1 k) I)
    · rw [qs_cnt_f (fun z => g1 (hd.mp z).1)] at I
      exact br_f (fun z => g1 ((nI_eq (by omega) (by omega)).mp z)) (nm_r (nI_1 k) I)
theorem xq_cp_o {post : Int32 → Prop} {s t : Nat} (ok : qp_ok p) (Rs : qn_Rs p jT bG lV) (hs : s < 4) (ht : t ≤ 10000) (h : post (nI (qq_n p s t 0))) :
    ∀ (d n c : Nat), c + d = qp_m p → d < n → wX_countPresent_5 post (nI s) (nI t) (nI (qp_m p)) nw nc (qp_SV p) (qp_RU p) (qp_AR p) (qp_VC p) (qp_VS p) (qp_VN p) jT bG lV oJ oB oL cV wA fR eV cA n (nI (qs_cnt (qq_do p s t 0) (4 * c))) (nI c) := by
  have hm := ok.1
  intro d
  induction d with
  | zero =>
    intro n c h1 h2
    obtain ⟨n, rfl⟩ : ∃ m, n = m + 1 := ⟨n - 1, by omega⟩
    rw [wX_countPresent_5]
    have ec : c = qp_m p := by omega
    subst ec
    rw [qq_c_out hm] at h
    exact br_t (nI_le (by omega) (by omega)) h
  | succ d ih =>
    intro n c h1 h2
    obtain ⟨n, rfl⟩ : ∃ m, n = m + 1 := ⟨n - 1, by omega⟩
    rw [wX_countPresent_5]
    have hc : c < qp_m p := by omega
    exact br_f (nI_ge hc (by omega)) ⟨qp_vc p c + 1, xq_cp_i ok Rs hs ht hc (ih n (c + 1) (by omega) (by omega)) (qp_vc p c) (qp_vc p c + 1) 0 (by omega) (by omega)⟩
theorem xq_cp {post : Int32 → Prop} {s t : Nat} (ok : qp_ok p) (Rs : qn_Rs p jT bG lV) (hs : s < 4) (ht : t ≤ 10000) (h : post (nI (qq_n p s t 0))) : wpX_countPresent post ((nI (qp_m p)), nw, nc, (qp_SV p), (qp_RU p), (qp_AR p), (qp_VC p), (qp_VS p), (qp_VN p), jT, bG, lV, oJ, oB, oL, cV, wA, fR, eV, cA) (nI s) (nI t) :=
  ⟨qp_m p + 1, xq_cp_o ok Rs hs ht h (qp_m p) (qp_m p + 1) 0 (by omega) (by omega)⟩
theorem xq_cw_i {post : Int32 → Prop} {J5 : _} {s t c : Nat} (ok : qp_ok p) (Rs : qn_Rs p jT bG lV) (hs : s < 4) (ht : t ≤ 10000) (hc : c < qp_m p) (hJ : J5 (nI (qs_cnt (qq_do p s t 1) (4 * (c + 1)))) (nI (c + 1))) :
    ∀ (d n k : Nat), k + d = qp_vc p c → d < n → wX_countWaiting_17 post J5 (nI s) (nI t) (nI c) (nI (qp_m p)) nw nc (qp_SV p) (qp_RU p) (qp_AR p) (qp_VC p) (qp_VS p) (qp_VN p) jT bG lV oJ oB oL cV wA fR eV cA n (nI (qs_cnt (qq_do p s t 1) (4 * c + k))) (nI k) := by
  have hm := ok.1
  have hv := (ok.2.2 c hc).2.1
  have e : (nI c).toNatClampNeg = c := nI_clamp (by omega)
  have w : vp_in (nI c) 12 := vp_in_nI (by omega) (by omega)
  intro d
  induction d with
  | zero =>
    intro n k h1 h2
    obtain ⟨n, rfl⟩ : ∃ m, n = m + 1 := ⟨n - 1, by omega⟩
    rw [wX_countWaiting_17]
    refine ⟨w, ?_⟩
    rw [e, qp_VCe]
    have ek : k = qp_vc p c := by omega
    subst ek
    rw [qq_c_in hv] at hJ
    exact br_t (nI_le (by omega) (by omega)) (nm_r (nI_1 c) hJ)
  | succ d ih =>
    intro n k h1 h2
    obtain ⟨n, rfl⟩ : ∃ m, n = m + 1 := ⟨n - 1, by omega⟩
    rw [wX_countWaiting_17]
    refine ⟨w, ?_⟩
    rw [e, qp_VCe]
    have hk : k < qp_vc p c := by omega
    have I := ih n (k + 1) (by omega) (by omega)
    rw [show 4 * c + (k + 1) = 4 * c + k + 1 from rfl] at I
    obtain ⟨b1, b2, b3, b4, b5⟩ := qq_fb ok hc hk
    obtain ⟨rj, rb⟩ := qq_RJ Rs hc hk
    have hd := qq_do_1 (s := s) (t := t) hc hk hv
    have ei : (nI (4 * c + k)).toNatClampNeg = 4 * c + k := nI_clamp (by omega)
    have wi : vp_in (nI (4 * c + k)) 48 := vp_in_nI b4 (by omega)
    refine br_f (nI_ge hk (by omega)) (xl_vi ⟨wi, ?_⟩)
    rw [ei, qp_VSe, rj]
    by_cases g1 : qp_vs p (4 * c + k) = s
    · refine br_t (by rw [g1]) ⟨wi, ?_⟩
      by_cases g2 : qq_J p (4 * c + k) ≤ t
      · refine br_f (nI_nlt g2 (by omega)) ⟨wi, ?_⟩
        rw [rb]
        by_cases g3 : t < qq_B p (4 * c + k)
        · rw [qs_cnt_t (hd.mpr ⟨g1, g2, g3⟩)] at I
          exact br_f (nI_ge g3 (by omega)) (nm_r (nI_1 _) (nm_r (nI_1 k) I))
        · rw [qs_cnt_f (fun z => g3 (hd.mp z).2.2)] at I
          exact br_t (nI_le (by omega) (by omega)) (nm_r (nI_1 k) I)
      · rw [qs_cnt_f (fun z => g2 (hd.mp z).2.1)] at I
        exact br_t (nI_lt (by omega) (by omega)) (nm_r (nI_1 k) I)
    · rw [qs_cnt_f (fun z => g1 (hd.mp z).1)] at I
      exact br_f (fun z => g1 ((nI_eq (by omega) (by omega)).mp z)) (nm_r (nI_1 k) I)
theorem xq_cw_o {post : Int32 → Prop} {s t : Nat} (ok : qp_ok p) (Rs : qn_Rs p jT bG lV) (hs : s < 4) (ht : t ≤ 10000) (h : post (nI (qq_n p s t 1))) :
    ∀ (d n c : Nat), c + d = qp_m p → d < n → wX_countWaiting_5 post (nI s) (nI t) (nI (qp_m p)) nw nc (qp_SV p) (qp_RU p) (qp_AR p) (qp_VC p) (qp_VS p) (qp_VN p) jT bG lV oJ oB oL cV wA fR eV cA n (nI (qs_cnt (qq_do p s t 1) (4 * c))) (nI c) := by
  have hm := ok.1
  intro d
  induction d with
  | zero =>
    intro n c h1 h2
    obtain ⟨n, rfl⟩ : ∃ m, n = m + 1 := ⟨n - 1, by omega⟩
    rw [wX_countWaiting_5]
    have ec : c = qp_m p := by omega
    subst ec
    rw [qq_c_out hm] at h
    exact br_t (nI_le (by omega) (by omega)) h
  | succ d ih =>
    intro n c h1 h2
    obtain ⟨n, rfl⟩ : ∃ m, n = m + 1 := ⟨n - 1, by omega⟩
    rw [wX_countWaiting_5]
    have hc : c < qp_m p := by omega
    exact br_f (nI_ge hc (by omega)) ⟨qp_vc p c + 1, xq_cw_i ok Rs hs ht hc (ih n (c + 1) (by omega) (by omega)) (qp_vc p c) (qp_vc p c + 1) 0 (by omega) (by omega)⟩
theorem xq_cw {post : Int32 → Prop} {s t : Nat} (ok : qp_ok p) (Rs : qn_Rs p jT bG lV) (hs : s < 4) (ht : t ≤ 10000) (h : post (nI (qq_n p s t 1))) : wpX_countWaiting post ((nI (qp_m p)), nw, nc, (qp_SV p), (qp_RU p), (qp_AR p), (qp_VC p), (qp_VS p), (qp_VN p), jT, bG, lV, oJ, oB, oL, cV, wA, fR, eV, cA) (nI s) (nI t) :=
  ⟨qp_m p + 1, xq_cw_o ok Rs hs ht h (qp_m p) (qp_m p + 1) 0 (by omega) (by omega)⟩
theorem xq_ss_80 {post : Int32 → Prop} {J5 : _} {J17 : _} {x1 x2 x4 : Int32} {a u j k i : Nat} (hi : i < 48) (hj : jT i = nI j) (hu : j ≤ u) (h : J17 (nI (a + (u - j))) (nI (k + 1))) : wX_sumOfStaysBefore_80 post J5 J17 x1 x2 (nI a) x4 (nI k) (nI i) (nI u) (nI (qp_m p)) nw nc (qp_SV p) (qp_RU p) (qp_AR p) (qp_VC p) (qp_VS p) (qp_VN p) jT bG lV oJ oB oL cV wA fR eV cA := by
  have e : (nI i).toNatClampNeg = i := nI_clamp (by omega)
  exact ⟨vp_in_nI hi (by omega), nm_r (e' := nI (a + (u - j))) (by rw [e, hj, pk_sub hu, nI_add]) (nm_r (nI_1 k) h)⟩
theorem xq_ss_i {post : Int32 → Prop} {J5 : _} {s t c : Nat} (ok : qp_ok p) (Rs : qn_Rs p jT bG lV) (hs : s < 4) (ht : t ≤ 10000) (hc : c < qp_m p) (hJ : J5 (nI (qs_sum (qq_cl p s t) (4 * (c + 1)))) (nI (c + 1))) :
    ∀ (d n k : Nat), k + d = qp_vc p c → d < n → wX_sumOfStaysBefore_17 post J5 (nI s) (nI t) (nI c) (nI (qp_m p)) nw nc (qp_SV p) (qp_RU p) (qp_AR p) (qp_VC p) (qp_VS p) (qp_VN p) jT bG lV oJ oB oL cV wA fR eV cA n (nI (qs_sum (qq_cl p s t) (4 * c + k))) (nI k) := by
  have hm := ok.1
  have hv := (ok.2.2 c hc).2.1
  have e : (nI c).toNatClampNeg = c := nI_clamp (by omega)
  have w : vp_in (nI c) 12 := vp_in_nI (by omega) (by omega)
  intro d
  induction d with
  | zero =>
    intro n k h1 h2
    obtain ⟨n, rfl⟩ : ∃ m, n = m + 1 := ⟨n - 1, by omega⟩
    rw [wX_sumOfStaysBefore_17]
    refine ⟨w, ?_⟩
    rw [e, qp_VCe]
    have ek : k = qp_vc p c := by omega
    subst ek
    rw [qq_s_in hv] at hJ
    exact br_t (nI_le (by omega) (by omega)) (nm_r (nI_1 c) hJ)
  | succ d ih =>
    intro n k h1 h2
    obtain ⟨n, rfl⟩ : ∃ m, n = m + 1 := ⟨n - 1, by omega⟩
    rw [wX_sumOfStaysBefore_17]
    refine ⟨w, ?_⟩
    rw [e, qp_VCe]
    have hk : k < qp_vc p c := by omega
    have I := ih n (k + 1) (by omega) (by omega)
    rw [show 4 * c + (k + 1) = 4 * c + k + 1 from rfl, qs_sum_s, qq_cl_v hc hk hv] at I
    obtain ⟨b1, b2, b3, b4, b5⟩ := qq_fb ok hc hk
    obtain ⟨rj, rb⟩ := qq_RJ Rs hc hk
    have ei : (nI (4 * c + k)).toNatClampNeg = 4 * c + k := nI_clamp (by omega)
    have wi : vp_in (nI (4 * c + k)) 48 := vp_in_nI b4 (by omega)
    refine br_f (nI_ge hk (by omega)) (xl_vi ⟨wi, ?_⟩)
    rw [ei, qp_VSe, rj]
    by_cases g1 : qp_vs p (4 * c + k) = s
    · refine br_t (by rw [g1]) ⟨wi, ?_⟩
      by_cases g2 : qq_J p (4 * c + k) < t
      · rw [if_pos ⟨g1, g2⟩] at I
        refine br_f (nI_ge g2 (by omega)) (xq_en b4 rb ?_)
        show (nI t ≤ nI (qq_E p (4 * c + k)) → _) ∧ (¬ nI t ≤ nI (qq_E p (4 * c + k)) → _)
        by_cases g3 : qq_E p (4 * c + k) < t
        · rw [if_pos g3] at I
          exact br_f (nI_ge g3 (by omega)) (xq_en b4 rb (xq_ss_80 b4 rj (u := qq_E p (4 * c + k)) (by omega) I))
        · rw [if_neg g3] at I
          exact br_t (nI_le (by omega) (by omega)) (xq_ss_80 b4 rj (by omega) I)
      · rw [if_neg (fun z => g2 z.2), Nat.add_zero] at I
        exact br_t (nI_le (by omega) (by omega)) (nm_r (nI_1 k) I)
    · rw [if_neg (fun z => g1 z.1), Nat.add_zero] at I
      exact br_f (fun z => g1 ((nI_eq (by omega) (by omega)).mp z)) (nm_r (nI_1 k) I)
theorem xq_ss_o {post : Int32 → Prop} {s t : Nat} (ok : qp_ok p) (Rs : qn_Rs p jT bG lV) (hs : s < 4) (ht : t ≤ 10000) (h : post (nI (qq_ar p s t))) :
    ∀ (d n c : Nat), c + d = qp_m p → d < n → wX_sumOfStaysBefore_5 post (nI s) (nI t) (nI (qp_m p)) nw nc (qp_SV p) (qp_RU p) (qp_AR p) (qp_VC p) (qp_VS p) (qp_VN p) jT bG lV oJ oB oL cV wA fR eV cA n (nI (qs_sum (qq_cl p s t) (4 * c))) (nI c) := by
  have hm := ok.1
  intro d
  induction d with
  | zero =>
    intro n c h1 h2
    obtain ⟨n, rfl⟩ : ∃ m, n = m + 1 := ⟨n - 1, by omega⟩
    rw [wX_sumOfStaysBefore_5]
    have ec : c = qp_m p := by omega
    subst ec
    rw [← qq_ar_cl ok, qq_s_out hm] at h
    exact br_t (nI_le (by omega) (by omega)) h
  | succ d ih =>
    intro n c h1 h2
    obtain ⟨n, rfl⟩ : ∃ m, n = m + 1 := ⟨n - 1, by omega⟩
    rw [wX_sumOfStaysBefore_5]
    have hc : c < qp_m p := by omega
    exact br_f (nI_ge hc (by omega)) ⟨qp_vc p c + 1, xq_ss_i ok Rs hs ht hc (ih n (c + 1) (by omega) (by omega)) (qp_vc p c) (qp_vc p c + 1) 0 (by omega) (by omega)⟩
theorem xq_ss {post : Int32 → Prop} {s t : Nat} (ok : qp_ok p) (Rs : qn_Rs p jT bG lV) (hs : s < 4) (ht : t ≤ 10000) (h : post (nI (qq_ar p s t))) : wpX_sumOfStaysBefore post ((nI (qp_m p)), nw, nc, (qp_SV p), (qp_RU p), (qp_AR p), (qp_VC p), (qp_VS p), (qp_VN p), jT, bG, lV, oJ, oB, oL, cV, wA, fR, eV, cA) (nI s) (nI t) :=
  ⟨qp_m p + 1, xq_ss_o ok Rs hs ht h (qp_m p) (qp_m p + 1) 0 (by omega) (by omega)⟩
theorem xq_lb_l {post : Int32 → Prop} {c : Nat} (ok : qp_ok p) (Rs : qn_Rs p jT bG lV) (hc : c < qp_m p) (h : post (nI (qq_be p c))) :
    ∀ (d n b : Nat), b + d = qp_m p → d < n → wX_countLeavingBefore_4 post (nI c) (nI (qp_m p)) nw nc (qp_SV p) (qp_RU p) (qp_AR p) (qp_VC p) (qp_VS p) (qp_VN p) jT bG lV oJ oB oL cV wA fR eV cA n (nI (qs_cnt (qq_bb p c) b)) (nI b) := by
  have hm := ok.1
  intro d
  induction d with
  | zero =>
    intro n b h1 h2
    obtain ⟨n, rfl⟩ : ∃ m, n = m + 1 := ⟨n - 1, by omega⟩
    rw [wX_countLeavingBefore_4]
    have eb : b = qp_m p := by omega
    subst eb
    exact br_t (nI_le (by omega) (by omega)) h
  | succ d ih =>
    intro n b h1 h2
    obtain ⟨n, rfl⟩ : ∃ m, n = m + 1 := ⟨n - 1, by omega⟩
    rw [wX_countLeavingBefore_4]
    have hb : b < qp_m p := by omega
    have I := ih n (b + 1) (by omega) (by omega)
    have ec : (nI c).toNatClampNeg = c := nI_clamp (by omega)
    have eb : (nI b).toNatClampNeg = b := nI_clamp (by omega)
    have wc : vp_in (nI c) 12 := vp_in_nI (by omega) (by omega)
    have wb : vp_in (nI b) 12 := vp_in_nI (by omega) (by omega)
    have lc : qq_L p c ≤ 1540 := (qn_R_f ok hc).1
    have lb : qq_L p b ≤ 1540 := (qn_R_f ok hb).1
    have rc := qq_RL Rs hc
    have rb := qq_RL Rs hb
    refine br_f (nI_ge hb (by omega)) ⟨wb, wc, ?_⟩
    rw [eb, ec, rb, rc]
    by_cases g1 : qq_L p b < qq_L p c
    · have t : qq_bb p c b = true := decide_eq_true (Or.inl g1)
      rw [qs_cnt_t t] at I
      exact br_t (nI_lt g1 (by omega)) (nm_r (nI_1 _) (nm_r (nI_1 b) I))
    · refine br_f (nI_nlt (by omega) (by omega)) ⟨wb, wc, ?_⟩
      by_cases g2 : qq_L p b = qq_L p c
      · refine br_t (by rw [g2]) ?_
        by_cases g3 : b < c
        · have t : qq_bb p c b = true := decide_eq_true (Or.inr ⟨g2, g3⟩)
          rw [qs_cnt_t t] at I
          exact br_f (nI_ge g3 (by omega)) (nm_r (nI_1 _) (nm_r (nI_1 b) I))
        · have t : ¬ qq_bb p c b = true := fun z => by have := of_decide_eq_true z; omega
          rw [qs_cnt_f t] at I
          exact br_t (nI_le (by omega) (by omega)) (nm_r (nI_1 b) I)
      · have t : ¬ qq_bb p c b = true := fun z => by have := of_decide_eq_true z; omega
        rw [qs_cnt_f t] at I
        exact br_f (fun z => g2 ((nI_eq (by omega) (by omega)).mp z)) (nm_r (nI_1 b) I)
theorem xq_lb {post : Int32 → Prop} {c : Nat} (ok : qp_ok p) (Rs : qn_Rs p jT bG lV) (hc : c < qp_m p) (h : post (nI (qq_be p c))) : wpX_countLeavingBefore post ((nI (qp_m p)), nw, nc, (qp_SV p), (qp_RU p), (qp_AR p), (qp_VC p), (qp_VS p), (qp_VN p), jT, bG, lV, oJ, oB, oL, cV, wA, fR, eV, cA) (nI c) :=
  ⟨qp_m p + 1, xq_lb_l ok Rs hc h (qp_m p) (qp_m p + 1) 0 (by omega) (by omega)⟩
end XA
end
section
def qq_or (p : qp_T) (v : Int32) (c : Nat) (r : Int32) : Prop := (∃ b, b < c ∧ nI (qq_be p b) = v ∧ r = nI b) ∨ (r = -1 ∧ ∀ b, b < c → ¬ nI (qq_be p b) = v)
theorem qq_or_u {p : qp_T} (ok : qp_ok p) {v r q : Int32} (h : qq_or p v (qp_m p) r) (g : qq_or p v (qp_m p) q) : q = r := by
  have hm := ok.1
  rcases h with ⟨b, hb, e, rfl⟩ | ⟨rfl, hn⟩
  · rcases g with ⟨d, hd, f, rfl⟩ | ⟨rfl, hn⟩
    · have h1 := qq_be_lt hb
      have h2 := qq_be_lt hd
      have h3 := (nI_eq (by omega) (by omega)).mp (f.trans e.symm)
      rw [qq_be_inj hd hb h3]
    · exact absurd e (hn b hb)
  · rcases g with ⟨d, hd, f, rfl⟩ | ⟨rfl, _⟩
    · exact absurd f (hn d hd)
    · rfl
theorem qq_or_y {p : qp_T} {v r : Int32} {c : Nat} (h : nI (qq_be p c) = v) : qq_or p v (c + 1) (nI c) := Or.inl ⟨c, by omega, h, rfl⟩
theorem qq_or_n {p : qp_T} {v r : Int32} {c : Nat} (h : ¬ nI (qq_be p c) = v) (g : qq_or p v c r) : qq_or p v (c + 1) r := by
  rcases g with ⟨b, hb, e, f⟩ | ⟨f, hn⟩
  · exact Or.inl ⟨b, by omega, e, f⟩
  · refine Or.inr ⟨f, fun b hb => ?_⟩
    by_cases e : b = c
    · rw [e]; exact h
    · exact hn b (by omega)
section XL
variable {p : qp_T} {mm nw nc : Int32} {sC rU aR vC vS vN jT bG lV oJ oB oL cV wA fR eV cA : Nat → Int32}
theorem xq_bu {post : Int32 → SX → Prop} {s : Nat} (ok : qp_ok p) (Rs : qn_Rs p jT bG lV) (hs : s < 4) (h : post (nI (qq_bs p s (qq_la p))) ((nI (qp_m p)), nw, nc, (qp_SV p), (qp_RU p), (qp_AR p), (qp_VC p), (qp_VS p), (qp_VN p), jT, bG, lV, oJ, oB, oL, cV, wA, fR, eV, cA)) :
    ∀ (d n t : Nat), t + d = 1541 → d < n → wX_busy_18 post (nI s) (nI (qp_m p)) nw nc (qp_SV p) (qp_RU p) (qp_AR p) (qp_VC p) (qp_VS p) (qp_VN p) jT bG lV oJ oB oL cV wA fR eV cA n (nI (qq_bs p s t)) (nI t) := by
  intro d
  induction d with
  | zero =>
    intro n t h1 h2
    obtain ⟨n, rfl⟩ : ∃ m, n = m + 1 := ⟨n - 1, by omega⟩
    rw [wX_busy_18]
    have et : t = 1541 := by omega
    subst et
    have hl := qq_la_le ok
    rw [← qq_bs_z ok (e := 1541) (by omega)] at h
    exact br_t (nI_le (a := 1541) (b := 1541) (by omega) (by omega)) h
  | succ d ih =>
    intro n t h1 h2
    obtain ⟨n, rfl⟩ : ∃ m, n = m + 1 := ⟨n - 1, by omega⟩
    rw [wX_busy_18]
    have I := ih n (t + 1) (by omega) (by omega)
    have l0 := qq_n_lt (p := p) (s := s) (t := t) (kd := 0)
    have l1 := qq_n_lt (p := p) (s := s) (t := t) (kd := 1)
    have ha := qq_n_add p s t
    refine br_f (nI_ge (b := 1541) (by omega) (by decide)) (xq_cp ok Rs hs (by omega) (xq_cw ok Rs hs (by omega) ?_))
    unfold qq_bs at I ⊢
    by_cases g : 0 < qq_n p s t 2
    · rw [qs_cnt_t (decide_eq_true g)] at I
      exact br_f (nI_ge (by omega) (by omega)) (nm_r (nI_1 _) (nm_r (nI_1 t) I))
    · rw [qs_cnt_f (fun z => g (of_decide_eq_true z))] at I
      exact br_t (nI_le (by omega) (by omega)) (nm_r (nI_1 t) I)
theorem xq_lo {post : Int32 → SX → Prop} {s : Nat} (ok : qp_ok p) (Rs : qn_Rs p jT bG lV) (hs : s < 4) (h : post (nI (qq_lo p s (qq_la p))) ((nI (qp_m p)), nw, nc, (qp_SV p), (qp_RU p), (qp_AR p), (qp_VC p), (qp_VS p), (qp_VN p), jT, bG, lV, oJ, oB, oL, cV, wA, fR, eV, cA)) :
    ∀ (d n t : Nat), t + d = 1541 → d < n → wX_longest_18 post (nI s) (nI (qp_m p)) nw nc (qp_SV p) (qp_RU p) (qp_AR p) (qp_VC p) (qp_VS p) (qp_VN p) jT bG lV oJ oB oL cV wA fR eV cA n (nI (qq_lo p s t)) (nI t) := by
  intro d
  induction d with
  | zero =>
    intro n t h1 h2
    obtain ⟨n, rfl⟩ : ∃ m, n = m + 1 := ⟨n - 1, by omega⟩
    rw [wX_longest_18]
    have et : t = 1541 := by omega
    subst et
    have hl := qq_la_le ok
    rw [← qq_lo_z ok (e := 1541) (by omega)] at h
    exact br_t (nI_le (a := 1541) (b := 1541) (by omega) (by omega)) h
  | succ d ih =>
    intro n t h1 h2
    obtain ⟨n, rfl⟩ : ∃ m, n = m + 1 := ⟨n - 1, by omega⟩
    rw [wX_longest_18]
    have I := ih n (t + 1) (by omega) (by omega)
    have l1 := qq_n_lt (p := p) (s := s) (t := t) (kd := 1)
    have l2 : qq_lo p s t ≤ 48 := qq_mx_le (fun _ _ => qq_n_lt)
    refine br_f (nI_ge (b := 1541) (by omega) (by decide)) (xq_cw ok Rs hs (by omega) ?_)
    unfold qq_lo at I l2 ⊢
    rw [qq_mx_s] at I
    by_cases g : qq_mx (fun t => qq_n p s t 1) t < qq_n p s t 1
    · rw [if_pos g] at I
      exact br_f (nI_ge g (by omega)) (nm_r (nI_1 t) I)
    · rw [if_neg g] at I
      exact br_t (nI_le (by omega) (by omega)) (nm_r (nI_1 t) I)
theorem xq_la {post : Int32 → SX → Prop} (ok : qp_ok p) (Rs : qn_Rs p jT bG lV) (h : post (nI (qq_la p)) ((nI (qp_m p)), nw, nc, (qp_SV p), (qp_RU p), (qp_AR p), (qp_VC p), (qp_VS p), (qp_VN p), jT, bG, lV, oJ, oB, oL, cV, wA, fR, eV, cA)) :
    ∀ (d n c : Nat), c + d = qp_m p → d < n → wX_last_9 post (nI (qp_m p)) nw nc (qp_SV p) (qp_RU p) (qp_AR p) (qp_VC p) (qp_VS p) (qp_VN p) jT bG lV oJ oB oL cV wA fR eV cA n (nI (qq_mx (qq_L p) c)) (nI c) := by
  have hm := ok.1
  intro d
  induction d with
  | zero =>
    intro n c h1 h2
    obtain ⟨n, rfl⟩ : ∃ m, n = m + 1 := ⟨n - 1, by omega⟩
    rw [wX_last_9]
    have ec : c = qp_m p := by omega
    subst ec
    exact br_t (nI_le (by omega) (by omega)) h
  | succ d ih =>
    intro n c h1 h2
    obtain ⟨n, rfl⟩ : ∃ m, n = m + 1 := ⟨n - 1, by omega⟩
    rw [wX_last_9]
    have hc : c < qp_m p := by omega
    have I := ih n (c + 1) (by omega) (by omega)
    have ec : (nI c).toNatClampNeg = c := nI_clamp (by omega)
    have wc : vp_in (nI c) 12 := vp_in_nI (by omega) (by omega)
    have lc : qq_L p c ≤ 1540 := (qn_R_f ok hc).1
    have lm : qq_mx (qq_L p) c ≤ 1540 := qq_mx_le (fun b hb => (qn_R_f ok (by omega)).1)
    refine br_f (nI_ge hc (by omega)) ⟨wc, ?_⟩
    rw [ec, qq_RL Rs hc]
    rw [qq_mx_s] at I
    by_cases g : qq_mx (qq_L p) c < qq_L p c
    · rw [if_pos g] at I
      exact br_f (nI_ge g (by omega)) ⟨wc, nm_e (nm_r (nI_1 c) I)⟩
    · rw [if_neg g] at I
      exact br_t (nI_le (by omega) (by omega)) (nm_r (nI_1 c) I)
theorem xq_or {post : Int32 → SX → Prop} {v : Int32} (ok : qp_ok p) (Rs : qn_Rs p jT bG lV) (h : ∀ r, qq_or p v (qp_m p) r → post r ((nI (qp_m p)), nw, nc, (qp_SV p), (qp_RU p), (qp_AR p), (qp_VC p), (qp_VS p), (qp_VN p), jT, bG, lV, oJ, oB, oL, cV, wA, fR, eV, cA)) :
    ∀ (d n c : Nat) (r : Int32), c + d = qp_m p → d < n → qq_or p v c r → wX_order_19 post v (nI (qp_m p)) nw nc (qp_SV p) (qp_RU p) (qp_AR p) (qp_VC p) (qp_VS p) (qp_VN p) jT bG lV oJ oB oL cV wA fR eV cA n r (nI c) := by
  have hm := ok.1
  intro d
  induction d with
  | zero =>
    intro n c r h1 h2 h3
    obtain ⟨n, rfl⟩ : ∃ m, n = m + 1 := ⟨n - 1, by omega⟩
    rw [wX_order_19]
    have ec : c = qp_m p := by omega
    subst ec
    exact br_t (nI_le (by omega) (by omega)) (h r h3)
  | succ d ih =>
    intro n c r h1 h2 h3
    obtain ⟨n, rfl⟩ : ∃ m, n = m + 1 := ⟨n - 1, by omega⟩
    rw [wX_order_19]
    have hc : c < qp_m p := by omega
    refine br_f (nI_ge hc (by omega)) (xq_lb ok Rs hc ?_)
    by_cases g : nI (qq_be p c) = v
    · exact br_t g (nm_r (nI_1 c) (ih n (c + 1) _ (by omega) (by omega) (qq_or_y (r := r) g)))
    · exact br_f g (nm_r (nI_1 c) (ih n (c + 1) _ (by omega) (by omega) (qq_or_n g h3)))
theorem xl_k40 {post : SX → Prop} (h : ∀ ol, (∀ c, c < 12 → ol c = lV c) → post (mm, nw, nc, sC, rU, aR, vC, vS, vN, jT, bG, lV, oJ, oB, ol, cV, wA, fR, eV, cA)) :
    ∀ (d n c : Nat) (ol : Nat → Int32), c + d = 12 → d < n → (∀ b, b < c → ol b = lV b) → wX_keepAsOther_40 post mm nw nc n (nI c) sC rU aR vC vS vN jT bG lV oJ oB ol cV wA fR eV cA := by
  intro d
  induction d with
  | zero =>
    intro n c ol h1 h2 h3
    obtain ⟨n, rfl⟩ : ∃ m, n = m + 1 := ⟨n - 1, by omega⟩
    rw [wX_keepAsOther_40]
    exact br_t (nI_le (a := 12) (by omega) (by omega)) (h ol (fun b hb => h3 b (by omega)))
  | succ d ih =>
    intro n c ol h1 h2 h3
    obtain ⟨n, rfl⟩ : ∃ m, n = m + 1 := ⟨n - 1, by omega⟩
    rw [wX_keepAsOther_40]
    have ec : (nI c).toNatClampNeg = c := nI_clamp (by omega)
    have wc : vp_in (nI c) 12 := vp_in_nI (by omega) (by omega)
    refine br_f (nI_ge (b := 12) (by omega) (by decide)) ⟨wc, wc, nm_r (e' := upd ol c (lV c)) (by rw [ec]) (nm_r (nI_1 c) (ih n (c + 1) _ (by omega) (by omega) (fun b hb => ?_)))⟩
    by_cases f : b = c
    · rw [f, pk_us]
    · rw [pk_un f]; exact h3 b (by omega)
theorem xl_k2 {post : SX → Prop} (h : ∀ oj ob, (∀ i, i < 48 → oj i = jT i) → (∀ i, i < 48 → ob i = bG i) → ∃ n, wX_keepAsOther_40 post mm nw nc n 0 sC rU aR vC vS vN jT bG lV oj ob oL cV wA fR eV cA) :
    ∀ (d n c : Nat) (oj ob : Nat → Int32), c + d = 48 → d < n → (∀ b, b < c → oj b = jT b) → (∀ b, b < c → ob b = bG b) → wX_keepAsOther_2 post mm nw nc n (nI c) sC rU aR vC vS vN jT bG lV oj ob oL cV wA fR eV cA := by
  intro d
  induction d with
  | zero =>
    intro n c oj ob h1 h2 h3 h4
    obtain ⟨n, rfl⟩ : ∃ m, n = m + 1 := ⟨n - 1, by omega⟩
    rw [wX_keepAsOther_2]
    exact br_t (nI_le (a := 48) (by omega) (by omega)) (h oj ob (fun b hb => h3 b (by omega)) (fun b hb => h4 b (by omega)))
  | succ d ih =>
    intro n c oj ob h1 h2 h3 h4
    obtain ⟨n, rfl⟩ : ∃ m, n = m + 1 := ⟨n - 1, by omega⟩
    rw [wX_keepAsOther_2]
    have ec : (nI c).toNatClampNeg = c := nI_clamp (by omega)
    have wc : vp_in (nI c) 48 := vp_in_nI (by omega) (by omega)
    refine br_f (nI_ge (b := 48) (by omega) (by decide)) ⟨wc, wc, nm_r (e' := upd oj c (jT c)) (by rw [ec]) ⟨wc, wc, nm_r (e' := upd ob c (bG c)) (by rw [ec]) (nm_r (nI_1 c) (ih n (c + 1) _ _ (by omega) (by omega) (fun b hb => ?_) (fun b hb => ?_)))⟩⟩
    · by_cases f : b = c
      · rw [f, pk_us]
      · rw [pk_un f]; exact h3 b (by omega)
    · by_cases f : b = c
      · rw [f, pk_us]
      · rw [pk_un f]; exact h4 b (by omega)
theorem xl_ka {post : SX → Prop} (ok : qp_ok p) (Rs : qn_Rs p jT bG lV) (h : ∀ oj ob ol, qn_Rs p oj ob ol → post ((nI (qp_m p)), nw, nc, (qp_SV p), (qp_RU p), (qp_AR p), (qp_VC p), (qp_VS p), (qp_VN p), jT, bG, lV, oj, ob, ol, cV, wA, fR, eV, cA)) : wpX_keepAsOther post ((nI (qp_m p)), nw, nc, (qp_SV p), (qp_RU p), (qp_AR p), (qp_VC p), (qp_VS p), (qp_VN p), jT, bG, lV, oJ, oB, oL, cV, wA, fR, eV, cA) := by
  have hm := ok.1
  refine ⟨49, xl_k2 (fun oj ob ej eb => ⟨13, xl_k40 (fun ol el => h oj ob ol (fun c hc => ?_)) 12 13 0 oL (by omega) (by omega) (fun b hb => absurd hb (by omega))⟩) 48 49 0 oJ oB (by omega) (by omega) (fun b hb => absurd hb (by omega)) (fun b hb => absurd hb (by omega))⟩
  have hv := (ok.2.2 c hc).2.1
  obtain ⟨r1, r2⟩ := Rs c hc
  refine ⟨by rw [el c (by omega)]; exact r1, fun k hk => ?_⟩
  rw [ej _ (by omega), eb _ (by omega)]
  exact r2 k hk
theorem xl_i29 {post : Int32 → Prop} {J2 : _} {c : Nat} (ok : qp_ok p) (Rs : qn_Rs p jT bG lV) (Ro : qn_Rs p oJ oB oL) (hc : c < qp_m p) (hJ : J2 (nI (c + 1))) :
    ∀ (d n k : Nat), k + d = qp_vc p c → d < n → wX_isSameAsOther_29 post J2 (nI c) (nI (qp_m p)) nw nc (qp_SV p) (qp_RU p) (qp_AR p) (qp_VC p) (qp_VS p) (qp_VN p) jT bG lV oJ oB oL cV wA fR eV cA n (nI k) := by
  have hm := ok.1
  have hv := (ok.2.2 c hc).2.1
  have e : (nI c).toNatClampNeg = c := nI_clamp (by omega)
  have w : vp_in (nI c) 12 := vp_in_nI (by omega) (by omega)
  intro d
  induction d with
  | zero =>
    intro n k h1 h2
    obtain ⟨n, rfl⟩ : ∃ m, n = m + 1 := ⟨n - 1, by omega⟩
    rw [wX_isSameAsOther_29]
    refine ⟨w, ?_⟩
    rw [e, qp_VCe]
    exact br_t (nI_le (by omega) (by omega)) (nm_r (nI_1 c) hJ)
  | succ d ih =>
    intro n k h1 h2
    obtain ⟨n, rfl⟩ : ∃ m, n = m + 1 := ⟨n - 1, by omega⟩
    rw [wX_isSameAsOther_29]
    refine ⟨w, ?_⟩
    rw [e, qp_VCe]
    have hk : k < qp_vc p c := by omega
    obtain ⟨rj, rb⟩ := qq_RJ Rs hc hk
    obtain ⟨sj, sb⟩ := qq_RJ Ro hc hk
    have ei : (nI (4 * c + k)).toNatClampNeg = 4 * c + k := nI_clamp (by omega)
    have wi : vp_in (nI (4 * c + k)) 48 := vp_in_nI (by omega) (by omega)
    exact br_f (nI_ge hk (by omega)) (xl_vi ⟨wi, wi, br_t (by rw [ei, rj, sj]) ⟨wi, wi, br_t (by rw [ei, rb, sb]) (nm_r (nI_1 k) (ih n (k + 1) (by omega) (by omega)))⟩⟩)
theorem xl_i2 {post : Int32 → Prop} (ok : qp_ok p) (Rs : qn_Rs p jT bG lV) (Ro : qn_Rs p oJ oB oL) (h : post 1) :
    ∀ (d n c : Nat), c + d = qp_m p → d < n → wX_isSameAsOther_2 post (nI (qp_m p)) nw nc (qp_SV p) (qp_RU p) (qp_AR p) (qp_VC p) (qp_VS p) (qp_VN p) jT bG lV oJ oB oL cV wA fR eV cA n (nI c) := by
  have hm := ok.1
  intro d
  induction d with
  | zero =>
    intro n c h1 h2
    obtain ⟨n, rfl⟩ : ∃ m, n = m + 1 := ⟨n - 1, by omega⟩
    rw [wX_isSameAsOther_2]
    exact br_t (nI_le (by omega) (by omega)) h
  | succ d ih =>
    intro n c h1 h2
    obtain ⟨n, rfl⟩ : ∃ m, n = m + 1 := ⟨n - 1, by omega⟩
    rw [wX_isSameAsOther_2]
    have hc : c < qp_m p := by omega
    have e : (nI c).toNatClampNeg = c := nI_clamp (by omega)
    have w : vp_in (nI c) 12 := vp_in_nI (by omega) (by omega)
    exact br_f (nI_ge hc (by omega)) ⟨w, w, br_t (by rw [e, qq_RL Rs hc, qq_RL Ro hc]) ⟨qp_vc p c + 1, xl_i29 ok Rs Ro hc (ih n (c + 1) (by omega) (by omega)) (qp_vc p c) (qp_vc p c + 1) 0 (by omega) (by omega)⟩⟩
theorem xl_sa {post : Int32 → Prop} (ok : qp_ok p) (Rs : qn_Rs p jT bG lV) (Ro : qn_Rs p oJ oB oL) (h : post 1) : wpX_isSameAsOther post ((nI (qp_m p)), nw, nc, (qp_SV p), (qp_RU p), (qp_AR p), (qp_VC p), (qp_VS p), (qp_VN p), jT, bG, lV, oJ, oB, oL, cV, wA, fR, eV, cA) :=
  ⟨qp_m p + 1, xl_i2 ok Rs Ro h (qp_m p) (qp_m p + 1) 0 (by omega) (by omega)⟩
end XL
end
section
def jx_v (p : qp_T) (v w : Int32) : Prop := ∃ c k, c < qp_m p ∧ k < qp_vc p c ∧ v = nI c ∧ w = nI k
def xs_S (p : qp_T) (u : SX) : Prop := ∃ (nw nc : Int32) (jT bG lV oJ oB oL cV wA fR eV cA : Nat → Int32), u = ((nI (qp_m p)), nw, nc, (qp_SV p), (qp_RU p), (qp_AR p), (qp_VC p), (qp_VS p), (qp_VN p), jT, bG, lV, oJ, oB, oL, cV, wA, fR, eV, cA)
section XP
variable {p : qp_T} {mm nw nc : Int32} {sC rU aR vC vS vN jT bG lV oJ oB oL cV wA fR eV cA : Nat → Int32}
theorem xs_i : xs_S p ((nI (qp_m p)), nw, nc, (qp_SV p), (qp_RU p), (qp_AR p), (qp_VC p), (qp_VS p), (qp_VN p), jT, bG, lV, oJ, oB, oL, cV, wA, fR, eV, cA) := ⟨_, _, _, _, _, _, _, _, _, _, _, _, _, rfl⟩
theorem xb_vi_t {post : Int32 → Prop} {c k : Nat} (ok : qp_ok p) (hc : c < qp_m p) (hk : k < qp_vc p c) (h : post 1) : wpX_isVisit post ((nI (qp_m p)), nw, nc, (qp_SV p), (qp_RU p), (qp_AR p), (qp_VC p), (qp_VS p), (qp_VN p), jT, bG, lV, oJ, oB, oL, cV, wA, fR, eV, cA) (nI c) (nI k) := by
  have hm := ok.1
  have hv := (ok.2.2 c hc).2.1
  unfold wpX_isVisit
  dsimp only
  refine xb_cu_t hm hc (br_f (by decide) (br_f (nI_pos (by omega)) ⟨vp_in_nI (by omega) (by omega), ?_⟩))
  rw [nI_clamp (by omega), qp_VCe]
  exact br_f (nI_ge hk (by omega)) h
theorem xb_vi_f {post : Int32 → Prop} {v w : Int32} (ok : qp_ok p) (hn : ¬ jx_v p v w) (h : post 0) : wpX_isVisit post ((nI (qp_m p)), nw, nc, (qp_SV p), (qp_RU p), (qp_AR p), (qp_VC p), (qp_VS p), (qp_VN p), jT, bG, lV, oJ, oB, oL, cV, wA, fR, eV, cA) v w := by
  have hm := ok.1
  unfold wpX_isVisit
  dsimp only
  by_cases a : ix_v v (qp_m p)
  · obtain ⟨c, hc, rfl⟩ := a
    have hv := (ok.2.2 c hc).2.1
    refine xb_cu_t hm hc (br_f (by decide) ?_)
    rcases ix_f (v := w) (n := qp_vc p c) (by omega) (fun z => by obtain ⟨k, hk, e⟩ := z; exact hn ⟨c, k, hc, hk, rfl, e⟩) with b | ⟨b, b'⟩
    · exact br_t b h
    · refine br_f b ⟨vp_in_nI (by omega) (by omega), ?_⟩
      rw [nI_clamp (by omega), qp_VCe]
      exact br_t b' h
  · exact xb_cu_f hm a (br_t rfl h)
theorem xp_leaves {post : Int32 → SX → Prop} {v1 v2 : Int32} (ok : qp_ok p) (h : ∀ e c u, e < 4 → c < qp_m p → v1 = nI e → v2 = nI c → xs_S p u → post (nI (qq_L p c)) u) (h0 : ¬ (ix_v v1 4 ∧ ix_v v2 (qp_m p)) → post (-1) ((nI (qp_m p)), nw, nc, (qp_SV p), (qp_RU p), (qp_AR p), (qp_VC p), (qp_VS p), (qp_VN p), jT, bG, lV, oJ, oB, oL, cV, wA, fR, eV, cA)) : wpX_leaves post ((nI (qp_m p)), nw, nc, (qp_SV p), (qp_RU p), (qp_AR p), (qp_VC p), (qp_VS p), (qp_VN p), jT, bG, lV, oJ, oB, oL, cV, wA, fR, eV, cA) v1 v2 := by
  have hm := ok.1
  unfold wpX_leaves
  dsimp only
  by_cases a : ix_v v1 4
  · obtain ⟨e, he, rfl⟩ := a
    refine xb_en_t he (br_f (by decide) ?_)
    by_cases b : ix_v v2 (qp_m p)
    · obtain ⟨c, hc, rfl⟩ := b
      refine xb_cu_t hm hc (br_f (by decide) (xl_run ok he (fun nw' nc' jt bg lv cv wa fr ev cal Rs => ⟨vp_in_nI (by omega) (by omega), ?_⟩)))
      dsimp only
      rw [nI_clamp (by omega), qq_RL Rs hc]
      exact h e c _ he hc rfl rfl xs_i
    · exact xb_cu_f hm b (br_t rfl (h0 (fun z => b z.2)))
  · exact xb_en_f a (br_t rfl (h0 (fun z => a z.1)))
theorem xp_joins {post : Int32 → SX → Prop} {v1 v2 : Int32} (ok : qp_ok p) (h : ∀ c k u, c < qp_m p → k < qp_vc p c → v1 = nI c → v2 = nI k → xs_S p u → post (nI (qq_J p (4 * c + k))) u) (h0 : ¬ jx_v p v1 v2 → post (-1) ((nI (qp_m p)), nw, nc, (qp_SV p), (qp_RU p), (qp_AR p), (qp_VC p), (qp_VS p), (qp_VN p), jT, bG, lV, oJ, oB, oL, cV, wA, fR, eV, cA)) : wpX_joins post ((nI (qp_m p)), nw, nc, (qp_SV p), (qp_RU p), (qp_AR p), (qp_VC p), (qp_VS p), (qp_VN p), jT, bG, lV, oJ, oB, oL, cV, wA, fR, eV, cA) v1 v2 := by
  have hm := ok.1
  unfold wpX_joins
  dsimp only
  by_cases a : jx_v p v1 v2
  · obtain ⟨c, k, hc, hk, rfl, rfl⟩ := a
    have hv := (ok.2.2 c hc).2.1
    refine xb_vi_t ok hc hk (br_f (by decide) (xl_run (e := 0) ok (by omega) (fun nw' nc' jt bg lv cv wa fr ev cal Rs => xl_vi ⟨vp_in_nI (by omega) (by omega), ?_⟩)))
    dsimp only
    rw [nI_clamp (by omega), (qq_RJ Rs hc hk).1]
    exact h c k _ hc hk rfl rfl xs_i
  · exact xb_vi_f ok a (br_t rfl (h0 a))
theorem xp_begins {post : Int32 → SX → Prop} {v1 v2 : Int32} (ok : qp_ok p) (h : ∀ c k u, c < qp_m p → k < qp_vc p c → v1 = nI c → v2 = nI k → xs_S p u → post (nI (qq_B p (4 * c + k))) u) (h0 : ¬ jx_v p v1 v2 → post (-1) ((nI (qp_m p)), nw, nc, (qp_SV p), (qp_RU p), (qp_AR p), (qp_VC p), (qp_VS p), (qp_VN p), jT, bG, lV, oJ, oB, oL, cV, wA, fR, eV, cA)) : wpX_begins post ((nI (qp_m p)), nw, nc, (qp_SV p), (qp_RU p), (qp_AR p), (qp_VC p), (qp_VS p), (qp_VN p), jT, bG, lV, oJ, oB, oL, cV, wA, fR, eV, cA) v1 v2 := by
  have hm := ok.1
  unfold wpX_begins
  dsimp only
  by_cases a : jx_v p v1 v2
  · obtain ⟨c, k, hc, hk, rfl, rfl⟩ := a
    have hv := (ok.2.2 c hc).2.1
    refine xb_vi_t ok hc hk (br_f (by decide) (xl_run (e := 0) ok (by omega) (fun nw' nc' jt bg lv cv wa fr ev cal Rs => xl_vi ⟨vp_in_nI (by omega) (by omega), ?_⟩)))
    dsimp only
    rw [nI_clamp (by omega), (qq_RJ Rs hc hk).2]
    exact h c k _ hc hk rfl rfl xs_i
  · exact xb_vi_f ok a (br_t rfl (h0 a))
theorem xp_at {post : Int32 → SX → Prop} {v1 v2 : Int32} (ok : qp_ok p) (h : ∀ s t u, s < 4 → t < 10001 → v1 = nI s → v2 = nI t → xs_S p u → post (nI (qq_n p s t 0)) u) (h0 : ¬ (ix_v v1 4 ∧ ix_v v2 10001) → post (-1) ((nI (qp_m p)), nw, nc, (qp_SV p), (qp_RU p), (qp_AR p), (qp_VC p), (qp_VS p), (qp_VN p), jT, bG, lV, oJ, oB, oL, cV, wA, fR, eV, cA)) : wpX_at post ((nI (qp_m p)), nw, nc, (qp_SV p), (qp_RU p), (qp_AR p), (qp_VC p), (qp_VS p), (qp_VN p), jT, bG, lV, oJ, oB, oL, cV, wA, fR, eV, cA) v1 v2 := by
  unfold wpX_at
  dsimp only
  by_cases a : ix_v v1 4
  · obtain ⟨s, hs, rfl⟩ := a
    refine xb_st_t hs (br_f (by decide) ?_)
    by_cases b : ix_v v2 10001
    · obtain ⟨t, ht, rfl⟩ := b
      exact xb_tm_t ht (br_f (by decide) (xl_run (e := 0) ok (by omega) (fun nw' nc' jt bg lv cv wa fr ev cal Rs => xq_cp ok Rs hs (by omega) (h s t _ hs ht rfl rfl xs_i))))
    · exact xb_tm_f b (br_t rfl (h0 (fun z => b z.2)))
  · exact xb_st_f a (br_t rfl (h0 (fun z => a z.1)))
theorem xp_waits {post : Int32 → SX → Prop} {v1 v2 : Int32} (ok : qp_ok p) (h : ∀ s t u, s < 4 → t < 10001 → v1 = nI s → v2 = nI t → xs_S p u → post (nI (qq_n p s t 1)) u) (h0 : ¬ (ix_v v1 4 ∧ ix_v v2 10001) → post (-1) ((nI (qp_m p)), nw, nc, (qp_SV p), (qp_RU p), (qp_AR p), (qp_VC p), (qp_VS p), (qp_VN p), jT, bG, lV, oJ, oB, oL, cV, wA, fR, eV, cA)) : wpX_waits post ((nI (qp_m p)), nw, nc, (qp_SV p), (qp_RU p), (qp_AR p), (qp_VC p), (qp_VS p), (qp_VN p), jT, bG, lV, oJ, oB, oL, cV, wA, fR, eV, cA) v1 v2 := by
  unfold wpX_waits
  dsimp only
  by_cases a : ix_v v1 4
  · obtain ⟨s, hs, rfl⟩ := a
    refine xb_st_t hs (br_f (by decide) ?_)
    by_cases b : ix_v v2 10001
    · obtain ⟨t, ht, rfl⟩ := b
      exact xb_tm_t ht (br_f (by decide) (xl_run (e := 0) ok (by omega) (fun nw' nc' jt bg lv cv wa fr ev cal Rs => xq_cw ok Rs hs (by omega) (h s t _ hs ht rfl rfl xs_i))))
    · exact xb_tm_f b (br_t rfl (h0 (fun z => b z.2)))
  · exact xb_st_f a (br_t rfl (h0 (fun z => a z.1)))
theorem xp_area {post : Int32 → SX → Prop} {v1 v2 : Int32} (ok : qp_ok p) (h : ∀ s t u, s < 4 → t < 10001 → v1 = nI s → v2 = nI t → xs_S p u → post (nI (qq_ar p s t)) u) (h0 : ¬ (ix_v v1 4 ∧ ix_v v2 10001) → post (-1) ((nI (qp_m p)), nw, nc, (qp_SV p), (qp_RU p), (qp_AR p), (qp_VC p), (qp_VS p), (qp_VN p), jT, bG, lV, oJ, oB, oL, cV, wA, fR, eV, cA)) : wpX_area post ((nI (qp_m p)), nw, nc, (qp_SV p), (qp_RU p), (qp_AR p), (qp_VC p), (qp_VS p), (qp_VN p), jT, bG, lV, oJ, oB, oL, cV, wA, fR, eV, cA) v1 v2 := by
  unfold wpX_area
  dsimp only
  by_cases a : ix_v v1 4
  · obtain ⟨s, hs, rfl⟩ := a
    refine xb_st_t hs (br_f (by decide) ?_)
    by_cases b : ix_v v2 10001
    · obtain ⟨t, ht, rfl⟩ := b
      exact xb_tm_t ht (br_f (by decide) (xl_run (e := 0) ok (by omega) (fun nw' nc' jt bg lv cv wa fr ev cal Rs => xq_ss ok Rs hs (by omega) (h s t _ hs ht rfl rfl xs_i))))
    · exact xb_tm_f b (br_t rfl (h0 (fun z => b z.2)))
  · exact xb_st_f a (br_t rfl (h0 (fun z => a z.1)))
theorem xp_stays {post : Int32 → SX → Prop} {v1 : Int32} (ok : qp_ok p) (h : ∀ s u, s < 4 → v1 = nI s → xs_S p u → post (nI (qq_ar p s (qq_la p))) u) (h0 : ¬ ix_v v1 4 → post (-1) ((nI (qp_m p)), nw, nc, (qp_SV p), (qp_RU p), (qp_AR p), (qp_VC p), (qp_VS p), (qp_VN p), jT, bG, lV, oJ, oB, oL, cV, wA, fR, eV, cA)) : wpX_stays post ((nI (qp_m p)), nw, nc, (qp_SV p), (qp_RU p), (qp_AR p), (qp_VC p), (qp_VS p), (qp_VN p), jT, bG, lV, oJ, oB, oL, cV, wA, fR, eV, cA) v1 := by
  unfold wpX_stays
  dsimp only
  by_cases a : ix_v v1 4
  · obtain ⟨s, hs, rfl⟩ := a
    have hl := qq_la_le ok
    exact xb_st_t hs (br_f (by decide) (xl_run (e := 0) ok (by omega) (fun nw' nc' jt bg lv cv wa fr ev cal Rs => xq_ss (t := 1541) ok Rs hs (by omega) (by rw [qq_ar_z ok (by omega)]; exact h s _ hs rfl xs_i))))
  · exact xb_st_f a (br_t rfl (h0 a))
theorem xp_busy {post : Int32 → SX → Prop} {v1 : Int32} (ok : qp_ok p) (h : ∀ s u, s < 4 → v1 = nI s → xs_S p u → post (nI (qq_bs p s (qq_la p))) u) (h0 : ¬ ix_v v1 4 → post (-1) ((nI (qp_m p)), nw, nc, (qp_SV p), (qp_RU p), (qp_AR p), (qp_VC p), (qp_VS p), (qp_VN p), jT, bG, lV, oJ, oB, oL, cV, wA, fR, eV, cA)) : wpX_busy post ((nI (qp_m p)), nw, nc, (qp_SV p), (qp_RU p), (qp_AR p), (qp_VC p), (qp_VS p), (qp_VN p), jT, bG, lV, oJ, oB, oL, cV, wA, fR, eV, cA) v1 := by
  unfold wpX_busy
  dsimp only
  by_cases a : ix_v v1 4
  · obtain ⟨s, hs, rfl⟩ := a
    exact xb_st_t hs (br_f (by decide) (xl_run (e := 0) ok (by omega) (fun nw' nc' jt bg lv cv wa fr ev cal Rs => ⟨1542, xq_bu ok Rs hs (h s _ hs rfl xs_i) 1541 1542 0 (by omega) (by omega)⟩)))
  · exact xb_st_f a (br_t rfl (h0 a))
theorem xp_longest {post : Int32 → SX → Prop} {v1 : Int32} (ok : qp_ok p) (h : ∀ s u, s < 4 → v1 = nI s → xs_S p u → post (nI (qq_lo p s (qq_la p))) u) (h0 : ¬ ix_v v1 4 → post (-1) ((nI (qp_m p)), nw, nc, (qp_SV p), (qp_RU p), (qp_AR p), (qp_VC p), (qp_VS p), (qp_VN p), jT, bG, lV, oJ, oB, oL, cV, wA, fR, eV, cA)) : wpX_longest post ((nI (qp_m p)), nw, nc, (qp_SV p), (qp_RU p), (qp_AR p), (qp_VC p), (qp_VS p), (qp_VN p), jT, bG, lV, oJ, oB, oL, cV, wA, fR, eV, cA) v1 := by
  unfold wpX_longest
  dsimp only
  by_cases a : ix_v v1 4
  · obtain ⟨s, hs, rfl⟩ := a
    exact xb_st_t hs (br_f (by decide) (xl_run (e := 0) ok (by omega) (fun nw' nc' jt bg lv cv wa fr ev cal Rs => ⟨1542, xq_lo ok Rs hs (h s _ hs rfl xs_i) 1541 1542 0 (by omega) (by omega)⟩)))
  · exact xb_st_f a (br_t rfl (h0 a))
theorem xp_last {post : Int32 → SX → Prop} (ok : qp_ok p) (h : ∀ u, xs_S p u → post (nI (qq_la p)) u) : wpX_last post ((nI (qp_m p)), nw, nc, (qp_SV p), (qp_RU p), (qp_AR p), (qp_VC p), (qp_VS p), (qp_VN p), jT, bG, lV, oJ, oB, oL, cV, wA, fR, eV, cA) := by
  unfold wpX_last
  dsimp only
  exact xl_run (e := 0) ok (by omega) (fun nw' nc' jt bg lv cv wa fr ev cal Rs => ⟨qp_m p + 1, xq_la ok Rs (h _ xs_i) (qp_m p) (qp_m p + 1) 0 (by omega) (by omega)⟩)
theorem xp_order {post : Int32 → SX → Prop} {v : Int32} (ok : qp_ok p) (h : ∀ r u, qq_or p v (qp_m p) r → xs_S p u → post r u) : wpX_order post ((nI (qp_m p)), nw, nc, (qp_SV p), (qp_RU p), (qp_AR p), (qp_VC p), (qp_VS p), (qp_VN p), jT, bG, lV, oJ, oB, oL, cV, wA, fR, eV, cA) v := by
  have hm := ok.1
  unfold wpX_order
  dsimp only
  by_cases a : ix_v v (qp_m p)
  · obtain ⟨k, hk, rfl⟩ := a
    exact xb_cu_t hm hk (br_f (by decide) (xl_run (e := 0) ok (by omega) (fun nw' nc' jt bg lv cv wa fr ev cal Rs => ⟨qp_m p + 1, xq_or ok Rs (fun r hr => h r _ hr xs_i) (qp_m p) (qp_m p + 1) 0 (-1) (by omega) (by omega) (Or.inr ⟨rfl, fun b hb => absurd hb (by omega)⟩)⟩)))
  · refine xb_cu_f hm a (br_t rfl (h _ _ (Or.inr ⟨rfl, fun b hb z => a ⟨qq_be p b, qq_be_lt hb, z.symm⟩⟩) xs_i))
theorem xp_agree {post : Int32 → SX → Prop} {v1 v2 : Int32} (ok : qp_ok p) (h : ∀ u, ix_v v1 4 → ix_v v2 4 → xs_S p u → post 1 u) (h0 : ¬ (ix_v v1 4 ∧ ix_v v2 4) → post 0 ((nI (qp_m p)), nw, nc, (qp_SV p), (qp_RU p), (qp_AR p), (qp_VC p), (qp_VS p), (qp_VN p), jT, bG, lV, oJ, oB, oL, cV, wA, fR, eV, cA)) : wpX_agree post ((nI (qp_m p)), nw, nc, (qp_SV p), (qp_RU p), (qp_AR p), (qp_VC p), (qp_VS p), (qp_VN p), jT, bG, lV, oJ, oB, oL, cV, wA, fR, eV, cA) v1 v2 := by
  unfold wpX_agree
  dsimp only
  by_cases a : ix_v v1 4
  · obtain ⟨e, he, rfl⟩ := a
    refine xb_en_t he (br_f (by decide) ?_)
    by_cases b : ix_v v2 4
    · obtain ⟨f, hf, rfl⟩ := b
      exact xb_en_t hf (br_f (by decide) (xl_run ok hf (fun nw' nc' jt bg lv cv wa fr ev cal Rs => xl_ka ok Rs (fun oj ob ol Ro => xl_run ok he (fun nw2 nc2 jt2 bg2 lv2 cv2 wa2 fr2 ev2 cal2 R2 => xl_sa ok R2 Ro ⟨rfl, h _ ⟨e, he, rfl⟩ ⟨f, hf, rfl⟩ xs_i⟩)))))
    · exact xb_en_f b (br_t rfl (h0 (fun z => b z.2)))
  · exact xb_en_f a (br_t rfl (h0 (fun z => a z.1)))
end XP
end
section
theorem yl_c4 (c k : Nat) : 4 * nI c + nI k = nI (4 * c + k) := by
  rw [show (4 : Int32) = nI 4 from rfl, pk_mul, nI_add]
section YP
variable {p : qp_T} {jT bG lV nW : Nat → Int32}
theorem yl_en {post : SY → Prop} {t r c : Nat} {S : qn_S} (ok : qp_ok p) (K : qn_Ka p r S) (hc : c < qp_m p) (hh : qn_hs S c = true) (R : qy_R p S nW jT bG lV) (h : ∀ nw jt bg lv, qy_R p (qn_ev p t (qn_one c) S) nw jt bg lv → post ((nI (qp_m p)), (qp_SV p), (qp_RU p), (qp_AR p), (qp_VC p), (qp_VS p), (qp_VN p), jt, bg, lv, nw)) : wpY_enter post ((nI (qp_m p)), (qp_SV p), (qp_RU p), (qp_AR p), (qp_VC p), (qp_VS p), (qp_VN p), jT, bG, lV, nW) (nI c) (nI (qn_nk S c)) (nI t) := by
  have hm := ok.1
  have hv := (ok.2.2 c hc).2.1
  have hn := qn_nk_le (K c hc).1 hh
  have e : (nI c).toNatClampNeg = c := nI_clamp (by omega)
  have w : vp_in (nI c) 12 := vp_in_nI (by omega) (by omega)
  refine ⟨w, ?_⟩
  rw [e, qp_VCe]
  by_cases g : qn_nk S c = qp_vc p c
  · exact br_t (by rw [g]) ⟨w, nm_r (e' := upd lV c (nI t)) rfl ⟨w, nm_r (e' := upd nW c (nI 5)) rfl (h _ _ _ _ (qy_R_lv ok K hc hh g R))⟩⟩
  · have e4 : (4 * nI c + nI (qn_nk S c)).toNatClampNeg = 4 * c + qn_nk S c := by rw [yl_c4]; exact nI_clamp (by omega)
    have w4 : vp_in (4 * nI c + nI (qn_nk S c)) 48 := by rw [yl_c4]; exact vp_in_nI (by omega) (by omega)
    exact br_f (fun z => g ((nI_eq (by omega) (by omega)).mp z)) ⟨w, nm_r (e' := upd nW c (nI (qn_nk S c))) rfl ⟨w4, nm_r (e' := upd jT (4 * c + qn_nk S c) (nI t)) (by rw [e4]) ⟨w4, nm_r (e' := upd bG (4 * c + qn_nk S c) (-1)) (by rw [e4]) (h _ _ _ _ (qy_R_jo ok K hc hh g R))⟩⟩⟩
theorem yl_at {post : Int32 → Prop} {t s c : Nat} {S : qn_S} (ok : qp_ok p) (K : qn_Ka p t S) (hs : s < 4) (hc : c < qp_m p) (R : qy_R p S nW jT bG lV) (h1 : (qn_wt p S s c = true ∨ qn_sg p S s c = true) → post 1) (h0 : ¬ (qn_wt p S s c = true ∨ qn_sg p S s c = true) → post 0) : wpY_isAt post ((nI (qp_m p)), (qp_SV p), (qp_RU p), (qp_AR p), (qp_VC p), (qp_VS p), (qp_VN p), jT, bG, lV, nW) (nI c) (nI s) := by
  have hm := ok.1
  have e : (nI c).toNatClampNeg = c := nI_clamp (by omega)
  have w : vp_in (nI c) 12 := vp_in_nI (by omega) (by omega)
  have en : nW (nI c).toNatClampNeg = nI (qy_nw S c) := by rw [e, R.1 c hc]
  rw [qn_wt_iff, qn_sg_iff] at h1 h0
  refine ⟨w, ?_⟩
  rw [en]
  have G : qn_ph S c = 1 ∨ qn_ph S c = 2 → (4 ≤ nI (qy_nw S c) → post 0) ∧ (¬ 4 ≤ nI (qy_nw S c) → (vp_in (nI c) 12 ∧ (vp_in (4 * nI c + nI (qy_nw S c)) 48 ∧ ((qp_VS p (4 * nI c + nI (qy_nw S c)).toNatClampNeg = nI s → post 1) ∧ (¬ qp_VS p (4 * nI c + nI (qy_nw S c)).toNatClampNeg = nI s → post 0))))) := by
    intro a
    have hcu := qn_cu4 ok K hc a
    have hvs : qp_vs p (4 * c + qn_cu S c) < 4 := ((ok.2.2 c hc).2.2 _ hcu.1).1
    rw [qy_nw_i a, yl_c4]
    refine br_f (nI_ge (b := 4) hcu.2 (by decide)) ⟨w, vp_in_nI (by omega) (by omega), ?_⟩
    rw [nI_clamp (by omega), qp_VSe]
    by_cases g : qp_vs p (4 * c + qn_cu S c) = s
    · refine br_t (by rw [g]) (h1 ?_)
      rcases a with a | a
      · exact Or.inl ⟨a, g⟩
      · exact Or.inr ⟨a, g⟩
    · refine br_f (fun z => g ((nI_eq (by omega) (by omega)).mp z)) (h0 (fun z => ?_))
      rcases z with z | z
      · exact g z.2
      · exact g z.2
  rcases (K c hc).1 with ⟨a, b⟩ | ⟨a, b⟩ | ⟨a, b⟩ | ⟨a, b⟩
  · rw [qy_nw_0 a]; exact br_t (nI_le (a := 4) (b := 4) (by omega) (by omega)) (h0 (by omega))
  · exact G (Or.inl a)
  · exact G (Or.inr a)
  · rw [qy_nw_3 a]; exact br_t (nI_le (a := 4) (b := 5) (by omega) (by omega)) (h0 (by omega))
theorem yl_wt {post : Int32 → Prop} {t s c : Nat} {S : qn_S} (ok : qp_ok p) (K : qn_Ka p t S) (ht : t < 2001) (hs : s < 4) (hc : c < qp_m p) (R : qy_R p S nW jT bG lV) (h1 : qn_wt p S s c = true → post 1) (h0 : ¬ qn_wt p S s c = true → post 0) : wpY_isWaiting post ((nI (qp_m p)), (qp_SV p), (qp_RU p), (qp_AR p), (qp_VC p), (qp_VS p), (qp_VN p), jT, bG, lV, nW) (nI c) (nI s) := by
  have hm := ok.1
  unfold wpY_isWaiting
  dsimp only
  refine yl_at ok K hs hc R (fun z => br_f (by decide) ?_) (fun z => br_t rfl (h0 (fun y => z (Or.inl y))))
  have e : (nI c).toNatClampNeg = c := nI_clamp (by omega)
  have w : vp_in (nI c) 12 := vp_in_nI (by omega) (by omega)
  have en : nW (nI c).toNatClampNeg = nI (qy_nw S c) := by rw [e, R.1 c hc]
  have hz : qn_ph S c = 1 ∨ qn_ph S c = 2 := by rw [qn_wt_iff, qn_sg_iff] at z; omega
  have hcu := qn_cu4 ok K hc hz
  refine ⟨w, ?_⟩
  rw [en, qy_nw_i hz, yl_c4]
  refine ⟨vp_in_nI (by omega) (by omega), ?_⟩
  rw [nI_clamp (by omega)]
  rcases z with z | z
  · have a := qn_wt_iff.mp z
    have eb : bG (4 * c + qn_cu S c) = -1 := R.2.1 c hc a.1
    rw [eb]
    exact br_f (by decide) (h1 z)
  · have a := qn_sg_iff.mp z
    have eb : bG (4 * c + qn_cu S c) = nI (qn_B S (4 * c + qn_cu S c)) := (R.2.2 c hc).2.1 _ hcu.2 (Or.inr ⟨rfl, a.1⟩)
    have hB := ((K c hc).2.2.1 _ hcu.2 (Or.inr ⟨rfl, a.1⟩)).2
    rw [eb]
    exact br_t (nI_pos' (by omega)) (h0 (fun y => by have := (qn_wt_iff.mp y).1; omega))
theorem yl_bt {post : Int32 → Prop} {r t s c b : Nat} {S : qn_S} (ok : qp_ok p) (K : qn_Ka p t S) (ht : t < 2001) (hc : c < qp_m p) (hb : b < qp_m p) (wc : qn_wt p S s c = true) (wb : qn_wt p S s b = true) (hr : r ≤ 2) (R : qy_R p S nW jT bG lV)
    (h1 : qn_gb p r S c b = true → post 1) (h0 : ¬ qn_gb p r S c b = true → post 0) : wpY_better post ((nI (qp_m p)), (qp_SV p), (qp_RU p), (qp_AR p), (qp_VC p), (qp_VS p), (qp_VN p), jT, bG, lV, nW) (nI b) (nI c) (nI r) := by
  have hm := ok.1
  obtain ⟨j1, j2, j3, j4, j5, j6⟩ := qx_jt ok K R.2.2 hc wc
  obtain ⟨i1, i2, i3, i4, i5, i6⟩ := qx_jt ok K R.2.2 hb wb
  have ec : (nI c).toNatClampNeg = c := nI_clamp (by omega)
  have eb : (nI b).toNatClampNeg = b := nI_clamp (by omega)
  have nc : 4 * nI c + nW (nI c).toNatClampNeg = nI (qn_v S c) := by rw [ec, R.1 c hc, qy_nw_i (Or.inl (qn_wt_iff.mp wc).1), yl_c4]; rfl
  have nb : 4 * nI b + nW (nI b).toNatClampNeg = nI (qn_v S b) := by rw [eb, R.1 b hb, qy_nw_i (Or.inl (qn_wt_iff.mp wb).1), yl_c4]; rfl
  have evc : (nI (qn_v S c)).toNatClampNeg = qn_v S c := nI_clamp (by omega)
  have evb : (nI (qn_v S b)).toNatClampNeg = qn_v S b := nI_clamp (by omega)
  have wvc : vp_in (nI (qn_v S c)) 48 := vp_in_nI j3 (by omega)
  have wvb : vp_in (nI (qn_v S b)) 48 := vp_in_nI i3 (by omega)
  refine ⟨vp_in_nI (by omega) (by omega), nm_r nb ⟨vp_in_nI (by omega) (by omega), nm_r nc ?_⟩⟩
  unfold qn_gb at h1 h0
  have G : r ≠ 1 → (decide (qn_J S (qn_v S c) < qn_J S (qn_v S b)) = true → post 1) → (¬ decide (qn_J S (qn_v S c) < qn_J S (qn_v S b)) = true → post 0) → wY_better_69 post (nI r) (nI (qn_v S b)) (nI (qn_v S c)) (nI (qp_m p)) (qp_SV p) (qp_RU p) (qp_AR p) (qp_VC p) (qp_VS p) (qp_VN p) jT bG lV nW := by
    intro r1 g1 g0
    refine br_f (fun z => r1 ((nI_eq (b := 1) (by omega) (by omega)).mp z)) ⟨wvc, wvb, ?_⟩
    by_cases g : qn_J S (qn_v S c) < qn_J S (qn_v S b)
    · exact br_f (by rw [evc, evb, j1, i1]; exact nI_ge g (by omega)) (g1 (decide_eq_true g))
    · exact br_t (by rw [evc, evb, j1, i1]; exact nI_le (by omega) (by omega)) (g0 (fun z => g (of_decide_eq_true z)))
  by_cases r1 : r = 1
  · rw [if_pos r1] at h1 h0
    refine br_f (fun z => by have := (nI_eq (b := 2) (by omega) (by omega)).mp z; omega) (br_t (by rw [r1]; rfl) ⟨wvc, wvb, ?_⟩)
    by_cases g : qn_J S (qn_v S b) ≤ qn_J S (qn_v S c)
    · exact br_f (by rw [evc, evb, j1, i1]; exact nI_nlt g (by omega)) (h1 (decide_eq_true g))
    · exact br_t (by rw [evc, evb, j1, i1]; exact nI_lt (by omega) (by omega)) (h0 (fun z => g (of_decide_eq_true z)))
  · rw [if_neg r1] at h1 h0
    by_cases r0 : r = 0
    · rw [if_pos (Or.inl r0)] at h1 h0
      exact br_f (fun z => by have := (nI_eq (b := 2) (by omega) (by omega)).mp z; omega) (G r1 h1 h0)
    · refine br_t (by rw [show r = 2 from by omega]; rfl) ⟨wvb, wvc, ?_⟩
      by_cases f : qp_vn p (qn_v S c) = qp_vn p (qn_v S b)
      · rw [if_pos (Or.inr f)] at h1 h0
        exact br_t (by rw [evc, evb, qp_VNe, qp_VNe, f]) (G r1 h1 h0)
      · rw [if_neg (fun z => z.elim r0 f)] at h1 h0
        refine br_f (fun z => f (by rw [evc, evb, qp_VNe, qp_VNe] at z; exact ((nI_eq (by omega) (by omega)).mp z).symm)) ⟨wvc, wvb, ?_⟩
        by_cases g : qp_vn p (qn_v S c) < qp_vn p (qn_v S b)
        · exact br_f (by rw [evc, evb, qp_VNe, qp_VNe]; exact nI_ge g (by omega)) (h1 (decide_eq_true g))
        · exact br_t (by rw [evc, evb, qp_VNe, qp_VNe]; exact nI_le (by omega) (by omega)) (h0 (fun z => g (of_decide_eq_true z)))
end YP
end
section
section YS
variable {p : qp_T} {jT bG lV nW : Nat → Int32}
theorem yl_57 {post : SY → Prop} {J2 : _} {J15 : _} {t s c k : Nat} {S : qn_S} {x2 : Int32} (ok : qp_ok p) (K : qn_Ka p t S) (ht : t < 2001) (hs : s < 4) (hc : c < qp_m p) (R : qy_R p S nW jT bG lV) (w : qn_wt p S s c = true) (h : J15 (nI k) (qn_enc (qn_pk p S s (c + 1))) (nI (c + 1))) : wY_serve_57 post J2 J15 (nI s) x2 (qn_enc (qn_pk p S s c)) (nI c) 1 (nI k) (nI (qp_m p)) (qp_SV p) (qp_RU p) (qp_AR p) (qp_VC p) (qp_VS p) (qp_VN p) jT bG lV nW := by
  have hm := ok.1
  refine br_f (by decide) ?_
  cases e : qn_pk p S s c with
  | none =>
    rw [qn_pk_s1 w e] at h
    exact br_t (by decide) (nm_r (nI_1 c) h)
  | some b =>
    obtain ⟨hb, wb⟩ := qn_pk_y e
    refine br_f (qn_enc_l b (by omega)) ⟨vp_in_nI hs (by omega), ?_⟩
    have er : qp_RU p (nI s).toNatClampNeg = nI (qp_ru p s) := by rw [nI_clamp (by omega), qp_RUe]
    rw [er]
    refine yl_bt ok K ht hc (by omega) w wb (ok.2.1 s hs).2.2 R (fun g => ?_) (fun g => ?_)
    · rw [qn_pk_s2 w e g] at h
      exact br_f (by decide) (nm_r (nI_1 c) h)
    · rw [qn_pk_s3 e g] at h
      exact br_t rfl (nm_r (nI_1 c) h)
theorem yl_15 {post : SY → Prop} {J2 : _} {t s : Nat} {S : qn_S} (ok : qp_ok p) (K : qn_Ka p t S) (ht : t < 2001) (hs : s < 4) (R : qy_R p S nW jT bG lV) (hb : qn_bl p S s → J2 0 (qp_SV p) (qp_RU p) (qp_AR p) (qp_VC p) (qp_VS p) (qp_VN p) jT bG lV nW) (hg : ∀ c, qn_nsg p S s < qp_sv p s → qn_pk p S s (qp_m p) = some c → J2 1 (qp_SV p) (qp_RU p) (qp_AR p) (qp_VC p) (qp_VS p) (qp_VN p) jT (upd bG (qn_v S c) (nI t)) lV nW) :
    ∀ (d n c : Nat), c + d = qp_m p → d < n → wY_serve_15 post J2 (nI s) (nI t) (nI (qp_m p)) (qp_SV p) (qp_RU p) (qp_AR p) (qp_VC p) (qp_VS p) (qp_VN p) jT bG lV nW n (nI (qs_cnt (qn_sg p S s) c)) (qn_enc (qn_pk p S s c)) (nI c) := by
  have hm := ok.1
  have hsv := (ok.2.1 s hs).2.1
  intro d
  induction d with
  | zero =>
    intro n c h1 h2
    obtain ⟨n, rfl⟩ : ∃ m, n = m + 1 := ⟨n - 1, by omega⟩
    rw [wY_serve_15]
    have ec : c = qp_m p := by omega
    subst ec
    refine br_t (nI_le (by omega) (by omega)) ?_
    cases e : qn_pk p S s (qp_m p) with
    | none => exact br_t (by decide) (br_t rfl (hb (fun _ => e)))
    | some c =>
      obtain ⟨hc, hw⟩ := qn_pk_y e
      rw [qn_wt_iff] at hw
      have hcu := qn_cu4 ok K hc (Or.inl hw.1)
      have hle := qs_cnt_le (qn_sg p S s) (qp_m p)
      have es : qp_SV p (nI s).toNatClampNeg = nI (qp_sv p s) := by rw [nI_clamp (by omega), qp_SVe]
      refine br_f (qn_enc_l c (by omega)) ⟨vp_in_nI hs (by omega), ?_⟩
      rw [es]
      by_cases g : qn_nsg p S s < qp_sv p s
      · have g' : qs_cnt (qn_sg p S s) (qp_m p) < qp_sv p s := g
        have ec : (nI c).toNatClampNeg = c := nI_clamp (by omega)
        have nv : 4 * nI c + nW (nI c).toNatClampNeg = nI (qn_v S c) := by rw [ec, R.1 c hc, qy_nw_i (Or.inl hw.1), yl_c4]; rfl
        have hv48 : qn_v S c < 48 := by unfold qn_v; omega
        refine br_f (nI_ge g' (by omega)) (br_f (by decide) ⟨vp_in_nI (by omega) (by omega), ?_⟩)
        show vp_in (4 * nI c + nW (nI c).toNatClampNeg) 48 ∧ _
        rw [show qn_enc (some c) = nI c from rfl, nv, nI_clamp (by omega)]
        exact ⟨vp_in_nI hv48 (by omega), nm_e (hg c g e)⟩
      · have g' : ¬ qs_cnt (qn_sg p S s) (qp_m p) < qp_sv p s := g
        exact br_t (nI_le (by omega) (by omega)) (br_t rfl (hb (fun z => absurd z g)))
  | succ d ih =>
    intro n c h1 h2
    obtain ⟨n, rfl⟩ : ∃ m, n = m + 1 := ⟨n - 1, by omega⟩
    rw [wY_serve_15]
    have hc : c < qp_m p := by omega
    have I := ih n (c + 1) (by omega) (by omega)
    refine br_f (nI_ge (by omega) (by omega)) (yl_wt ok K ht hs hc R (fun w => ?_) (fun w => ?_))
    · have ns : ¬ qn_sg p S s c = true := fun z => by have := (qn_wt_iff.mp w).1; have := (qn_sg_iff.mp z).1; omega
      rw [qs_cnt_f ns] at I
      exact yl_at ok K hs hc R (fun _ => br_f (by decide) (br_f (by decide) (yl_57 ok K ht hs hc R w I))) (fun z => absurd (Or.inl w) z)
    · rw [qn_pk_s0 w] at I
      refine yl_at ok K hs hc R (fun z => ?_) (fun z => ?_)
      · have sg : qn_sg p S s c = true := z.elim (fun y => absurd y w) id
        rw [qs_cnt_t sg] at I
        rw [nI_1]
        exact br_f (by decide) (br_t rfl (br_t rfl (nm_r (nI_1 c) I)))
      · have ns : ¬ qn_sg p S s c = true := fun y => z (Or.inr y)
        rw [qs_cnt_f ns] at I
        exact br_t rfl (br_t rfl (nm_r (nI_1 c) I))
theorem yl_se_l {post : SY → Prop} {t s : Nat} {F : qn_S} (ok : qp_ok p) (ht : t < 2001) (hs : s < 4) (h : ∀ bg, qn_Ka p t F → qy_R p F nW jT bg lV → post ((nI (qp_m p)), (qp_SV p), (qp_RU p), (qp_AR p), (qp_VC p), (qp_VS p), (qp_VN p), jT, bg, lV, nW)) :
    ∀ (d n : Nat) (S : qn_S) (bg : Nat → Int32), d + 1 < n → qp_sv p s ≤ qn_nsg p S s + d → qn_fl p t s d S = F → qn_Ka p t S → qy_R p S nW jT bg lV → wY_serve_2 post (nI s) (nI t) (nI (qp_m p)) n 1 (qp_SV p) (qp_RU p) (qp_AR p) (qp_VC p) (qp_VS p) (qp_VN p) jT bg lV nW := by
  have hm := ok.1
  intro d
  induction d with
  | zero =>
    intro n S bg h1 h2 h3 K R
    obtain ⟨n, rfl⟩ : ∃ m, n = m + 2 := ⟨n - 2, by omega⟩
    rw [wY_serve_2]
    have eF : S = F := h3
    subst eF
    refine br_f (by decide) ⟨qp_m p + 1, yl_15 ok K ht hs R (fun _ => ?_) (fun c g _ => absurd g (by omega)) (qp_m p) (qp_m p + 1) 0 (by omega) (by omega)⟩
    rw [wY_serve_2]
    exact br_t rfl (h bg K R)
  | succ d ih =>
    intro n S bg h1 h2 h3 K R
    obtain ⟨n, rfl⟩ : ∃ m, n = m + 2 := ⟨n - 2, by omega⟩
    rw [wY_serve_2]
    refine br_f (by decide) ⟨qp_m p + 1, yl_15 ok K ht hs R (fun b => ?_) (fun c g e => ?_) (qp_m p) (qp_m p + 1) 0 (by omega) (by omega)⟩
    · have eF : S = F := by rw [← h3, qn_fl_b b]
      subst eF
      rw [wY_serve_2]
      exact br_t rfl (h bg K R)
    · obtain ⟨hc, hw⟩ := qn_pk_y e
      rw [qn_wt_iff] at hw
      have hcu := qn_cu4 ok K hc (Or.inl hw.1)
      refine ih (n + 1) (qn_beg t S c) _ (by omega) ?_ (by rw [← h3, qn_fl_s g e]) (fun b hb => qn_K_beg (ok.2.2 c hc).2.1 hw.1 hcu.1 (K b hb)) (qy_R_beg ok K hc hw.1 R)
      rw [qn_nsg_beg hc hw.1 hw.2]
      omega
theorem yl_se {post : SY → Prop} {t s : Nat} {S : qn_S} (ok : qp_ok p) (K : qn_Ka p t S) (ht : t < 2001) (hs : s < 4) (R : qy_R p S nW jT bG lV) (h : ∀ bg, qn_Ka p t (qn_fl p t s 3 S) → qy_R p (qn_fl p t s 3 S) nW jT bg lV → post ((nI (qp_m p)), (qp_SV p), (qp_RU p), (qp_AR p), (qp_VC p), (qp_VS p), (qp_VN p), jT, bg, lV, nW)) : wpY_serve post ((nI (qp_m p)), (qp_SV p), (qp_RU p), (qp_AR p), (qp_VC p), (qp_VS p), (qp_VN p), jT, bG, lV, nW) (nI s) (nI t) :=
  ⟨5, yl_se_l ok ht hs h 3 5 S bG (by omega) (by have := (ok.2.1 s hs).2.1; omega) rfl K R⟩
end YS
end
section
theorem qy_lf_fl {p : qp_T} {t s n : Nat} {S : qn_S} : qy_lf p (qn_fl p t s n S) = qy_lf p S := by
  refine qn_fl_ind (Q := fun R => qy_lf p R = qy_lf p S) (fun R c hR _ hc => ?_) n S rfl
  rw [qy_lf_beg (qn_wt_iff.mp (qn_pk_y hc).2).1]
  exact hR
theorem qy_lf_st {p : qp_T} {t : Nat} {S : qn_S} : qy_lf p (qn_st p t S) = qy_lf p (qn_ev p t (qn_fi p t S) S) := by
  unfold qn_st qn_f4
  rw [qy_lf_fl, qy_lf_fl, qy_lf_fl, qy_lf_fl]
theorem qy_lf_le {p : qp_T} {S : qn_S} : qy_lf p S ≤ qp_m p := qs_cnt_le _ _
theorem qy_KD {p : qp_T} {t i : Nat} {S : qn_S} (ok : qp_ok p) (A : qn_A p t S) : qn_Ka p t (qn_ev p t (qy_D p t S i) S) := fun c hc =>
  qn_K_ev (ok.2.2 c hc).2.1 (qn_K_mono (by omega) (A.1 c hc)) (fun d => (qn_fi_iff.mp (qy_D_f d)).2)
section YR
variable {p : qp_T} {jT bG lV nW : Nat → Int32}
theorem yl_153 {post : SY → Prop} {J30 : _} {J43 : _} {t r c : Nat} {S : qn_S} (ok : qp_ok p) (K : qn_Ka p r S) (hc : c < qp_m p) (hh : qn_hs S c = true) (R : qy_R p S nW jT bG lV) (h : ∀ nw jt bg lv, qy_R p (qn_ev p t (qn_one c) S) nw jt bg lv → J43 (nI (qy_lf p (qn_ev p t (qn_one c) S))) (nI (c + 1)) (nI (qp_m p)) (qp_SV p) (qp_RU p) (qp_AR p) (qp_VC p) (qp_VS p) (qp_VN p) jt bg lv nw) : wY_play_153 post J30 J43 (nI (qy_lf p S)) (nI t) (nI c) (nI (qn_nk S c)) (nI c) (nI (qp_m p)) (qp_SV p) (qp_RU p) (qp_AR p) (qp_VC p) (qp_VS p) (qp_VN p) jT bG lV nW := by
  have hm := ok.1
  have hv := (ok.2.2 c hc).2.1
  have hn := qn_nk_le (K c hc).1 hh
  have e : (nI c).toNatClampNeg = c := nI_clamp (by omega)
  have w : vp_in (nI c) 12 := vp_in_nI (by omega) (by omega)
  unfold wY_play_153
  refine yl_en ok K hc hh R (fun nw jt bg lv R' => ⟨w, ?_⟩)
  have H := h nw jt bg lv R'
  have en := R'.1 c hc
  rw [e, en]
  by_cases g : qn_nk S c = qp_vc p c
  · have h3 : qn_ph (qn_ev p t (qn_one c) S) c = 3 := by rw [qn_evy_ph (qn_one_s c), if_pos g]
    have el := qy_lf_lv (t := t) hc hh g
    rw [qy_nw_3 h3, el]
    exact br_t rfl (nm_r (nI_pred _) (nm_r (nI_1 c) H))
  · have h1 : qn_ph (qn_ev p t (qn_one c) S) c = 1 := by rw [qn_evy_ph (qn_one_s c), if_neg g]
    have el := qy_lf_jo (t := t) hh g
    rw [qy_nw_i (Or.inl h1), qn_evy_cu (qn_one_s c)]
    rw [el] at H
    exact br_f (fun z => by have := (nI_eq (b := 5) (by omega) (by omega)).mp z; omega) (nm_r (nI_1 c) H)
theorem yl_43 {post : SY → Prop} {J30 : _} {t : Nat} {S : qn_S} (ok : qp_ok p) (A : qn_A p t S) (ht : t < 2001)
    (hE : ∀ nw jt bg lv, qy_R p (qn_ev p t (qn_fi p t S) S) nw jt bg lv → ∃ n, wY_play_183 post J30 (nI (qy_lf p (qn_ev p t (qn_fi p t S) S))) (nI t) n 0 (nI (qp_m p)) (qp_SV p) (qp_RU p) (qp_AR p) (qp_VC p) (qp_VS p) (qp_VN p) jt bg lv nw) :
    ∀ (d n c : Nat) (nw jt bg lv : Nat → Int32), c + d = qp_m p → d < n → qy_R p (qn_ev p t (qy_D p t S c) S) nw jt bg lv → wY_play_43 post J30 (nI t) n (nI (qy_lf p (qn_ev p t (qy_D p t S c) S))) (nI c) (nI (qp_m p)) (qp_SV p) (qp_RU p) (qp_AR p) (qp_VC p) (qp_VS p) (qp_VN p) jt bg lv nw := by
  have hm := ok.1
  intro d
  induction d with
  | zero =>
    intro n c nw jt bg lv h1 h2 R
    obtain ⟨n, rfl⟩ : ∃ m, n = m + 1 := ⟨n - 1, by omega⟩
    rw [wY_play_43]
    have ec : c = qp_m p := by omega
    subst ec
    rw [qy_D_m] at R ⊢
    exact br_t (nI_le (by omega) (by omega)) (hE nw jt bg lv R)
  | succ d ih =>
    intro n c nw jt bg lv h1 h2 R
    obtain ⟨n, rfl⟩ : ∃ m, n = m + 1 := ⟨n - 1, by omega⟩
    rw [wY_play_43]
    have hc : c < qp_m p := by omega
    have K := qy_KD (i := c) ok A
    have hv := (ok.2.2 c hc).2.1
    have har := (ok.2.2 c hc).1
    have e : (nI c).toNatClampNeg = c := nI_clamp (by omega)
    have w : vp_in (nI c) 12 := vp_in_nI (by omega) (by omega)
    have nD := qy_D_n (p := p) (t := t) (i := c) (S := S)
    have hhs : qn_hs (qn_ev p t (qy_D p t S c) S) c = qn_hs S c := qn_evn_hs nD
    have htm : qn_tm p (qn_ev p t (qy_D p t S c) S) c = qn_tm p S c := qn_evn_tm nD
    -- it fires
    have Y : qn_fi p t S c = true → ∀ nw' jt' bg' lv', qy_R p (qn_ev p t (qn_one c) (qn_ev p t (qy_D p t S c) S)) nw' jt' bg' lv' → wY_play_43 post J30 (nI t) n (nI (qy_lf p (qn_ev p t (qn_one c) (qn_ev p t (qy_D p t S c) S)))) (nI (c + 1)) (nI (qp_m p)) (qp_SV p) (qp_RU p) (qp_AR p) (qp_VC p) (qp_VS p) (qp_VN p) jt' bg' lv' nw' := by
      intro f nw' jt' bg' lv' R'
      rw [← qy_D_ye f] at R' ⊢
      exact ih n (c + 1) nw' jt' bg' lv' (by omega) (by omega) R'
    -- it doesn't
    have N : ¬ qn_fi p t S c = true → wY_play_43 post J30 (nI t) n (nI (qy_lf p (qn_ev p t (qy_D p t S c) S))) (nI (c + 1)) (nI (qp_m p)) (qp_SV p) (qp_RU p) (qp_AR p) (qp_VC p) (qp_VS p) (qp_VN p) jt bg lv nw := by
      intro f
      have I := ih n (c + 1) nw jt bg lv (by omega) (by omega)
      rw [qy_D_no f] at I
      exact I R
    generalize qn_ev p t (qy_D p t S c) S = V at *
    have en : nw (nI c).toNatClampNeg = nI (qy_nw V c) := by rw [e, R.1 c hc]
    have ea : qp_AR p (nI c).toNatClampNeg = nI (qp_ar p c) := by rw [e, qp_ARe]
    refine br_f (nI_ge (by omega) (by omega)) ⟨w, ?_⟩
    rw [en]
    rcases (K c hc).1 with ⟨a, b⟩ | ⟨a, b⟩ | ⟨a, b⟩ | ⟨a, b⟩
    · rw [qy_nw_0 a]
      refine nm_e ⟨w, br_t (nI_le (a := 4) (b := 4) (by omega) (by omega)) (br_t rfl ⟨w, ?_⟩)⟩
      rw [en, qy_nw_0 a, ea]
      refine br_t rfl ⟨w, ?_⟩
      have hs : qn_hs S c = true := by rw [← hhs]; exact qn_hs_iff.mpr (Or.inl a)
      by_cases g : qp_ar p c = t
      · have f : qn_fi p t S c = true := qn_fi_iff.mpr ⟨hc, hs, by rw [← htm, qn_tm_0 a]; exact g⟩
        have ek : qn_nk V c = 0 := by rw [qn_nk_0 a, b]
        have X := yl_153 (post := post) (J30 := J30) (t := t) ok K hc (by rw [hhs]; exact hs) R (Y f)
        rw [ek] at X
        exact br_t (by rw [g]) (br_t rfl X)
      · have f : ¬ qn_fi p t S c = true := fun z => g (by have := (qn_fi_iff.mp z).2.2; rw [← htm, qn_tm_0 a] at this; exact this)
        exact br_f (fun z => g ((nI_eq (by omega) (by omega)).mp z)) (nm_r (nI_1 c) (N f))
    · have hcu := qn_cu4 ok K hc (Or.inl a)
      have f : ¬ qn_fi p t S c = true := fun z => by have h5 := (qn_fi_iff.mp z).2.1; rw [← hhs, qn_hs_iff] at h5; omega
      have eb : bg (4 * c + qn_cu V c) = -1 := R.2.1 c hc a
      rw [qy_nw_i (Or.inl a), yl_c4]
      refine nm_e ⟨w, br_f (nI_ge (b := 4) hcu.2 (by decide)) ⟨vp_in_nI (by omega) (by omega), ?_⟩⟩
      rw [nI_clamp (by omega), eb]
      refine br_t (by decide) (br_t rfl ⟨w, ?_⟩)
      rw [en, qy_nw_i (Or.inl a)]
      exact br_f (fun z => by have := (nI_eq (b := 4) (by omega) (by omega)).mp z; omega) (nm_r (nI_1 c) (N f))
    · have hcu := qn_cu4 ok K hc (Or.inr a)
      have hs : qn_hs S c = true := by rw [← hhs]; exact qn_hs_iff.mpr (Or.inr a)
      have eb : bg (4 * c + qn_cu V c) = nI (qn_B V (4 * c + qn_cu V c)) := (R.2.2 c hc).2.1 _ hcu.2 (Or.inr ⟨rfl, a⟩)
      have hB := ((K c hc).2.2.1 _ hcu.2 (Or.inr ⟨rfl, a⟩)).2
      have hvn := ((ok.2.2 c hc).2.2 _ hcu.1).2.2
      have w4 : vp_in (nI (4 * c + qn_cu V c)) 48 := vp_in_nI (by omega) (by omega)
      rw [qy_nw_i (Or.inr a), yl_c4]
      refine nm_e ⟨w, br_f (nI_ge (b := 4) hcu.2 (by decide)) ⟨w4, ?_⟩⟩
      rw [nI_clamp (by omega), eb, qp_VNe, nI_add]
      refine br_f (nI_pos (by omega)) ⟨w4, w4, ?_⟩
      by_cases g : qn_B V (4 * c + qn_cu V c) + qp_vn p (4 * c + qn_cu V c) = t
      · have f : qn_fi p t S c = true := qn_fi_iff.mpr ⟨hc, hs, by rw [← htm, qn_tm_2 a]; exact g⟩
        have X := yl_153 (post := post) (J30 := J30) (t := t) ok K hc (by rw [hhs]; exact hs) R (Y f)
        rw [qn_nk_2 a] at X
        refine br_t (by rw [g]) (br_f (by decide) (br_f (by decide) ⟨w, ?_⟩))
        rw [en, qy_nw_i (Or.inr a), nI_1]
        exact X
      · have f : ¬ qn_fi p t S c = true := fun z => g (by have := (qn_fi_iff.mp z).2.2; rw [← htm, qn_tm_2 a] at this; exact this)
        refine br_f (fun z => g ((nI_eq (by omega) (by omega)).mp z)) (br_t rfl ⟨w, ?_⟩)
        rw [en, qy_nw_i (Or.inr a)]
        exact br_f (fun z => by have := (nI_eq (b := 4) (by omega) (by omega)).mp z; omega) (nm_r (nI_1 c) (N f))
    · have f : ¬ qn_fi p t S c = true := fun z => by have h5 := (qn_fi_iff.mp z).2.1; rw [← hhs, qn_hs_iff] at h5; omega
      rw [qy_nw_3 a]
      refine nm_e ⟨w, br_t (nI_le (a := 4) (b := 5) (by omega) (by omega)) (br_t rfl ⟨w, ?_⟩)⟩
      rw [en, qy_nw_3 a]
      exact br_f (by decide) (nm_r (nI_1 c) (N f))
theorem yl_183 {post : SY → Prop} {J30 : _} {t : Nat} {S : qn_S} {x1 : Int32} (ok : qp_ok p) (ht : t < 2001)
    (h : ∀ bg, qn_Ka p t (qn_fs p t S 4) → qy_R p (qn_fs p t S 4) nW jT bg lV → J30 x1 (nI (t + 1)) (nI (qp_m p)) (qp_SV p) (qp_RU p) (qp_AR p) (qp_VC p) (qp_VS p) (qp_VN p) jT bg lV nW) :
    ∀ (d n s : Nat) (bg : Nat → Int32), s + d = 4 → d < n → qn_Ka p t (qn_fs p t S s) → qy_R p (qn_fs p t S s) nW jT bg lV → wY_play_183 post J30 x1 (nI t) n (nI s) (nI (qp_m p)) (qp_SV p) (qp_RU p) (qp_AR p) (qp_VC p) (qp_VS p) (qp_VN p) jT bg lV nW := by
  intro d
  induction d with
  | zero =>
    intro n s bg h1 h2 K R
    obtain ⟨n, rfl⟩ : ∃ m, n = m + 1 := ⟨n - 1, by omega⟩
    rw [wY_play_183]
    have es : s = 4 := by omega
    subst es
    exact br_t (nI_le (a := 4) (b := 4) (by omega) (by omega)) (nm_r (nI_1 t) (h bg K R))
  | succ d ih =>
    intro n s bg h1 h2 K R
    obtain ⟨n, rfl⟩ : ∃ m, n = m + 1 := ⟨n - 1, by omega⟩
    rw [wY_play_183]
    exact br_f (nI_ge (b := 4) (by omega) (by decide)) (yl_se ok K ht (by omega) R (fun bg' K' R' => nm_r (nI_1 s) (ih n (s + 1) bg' (by omega) (by omega) K' R')))
theorem yl_30 {post : SY → Prop} (ok : qp_ok p) (h : ∀ nw jt bg lv, qn_Rs p jt bg lv → post ((nI (qp_m p)), (qp_SV p), (qp_RU p), (qp_AR p), (qp_VC p), (qp_VS p), (qp_VN p), jt, bg, lv, nw)) :
    ∀ (d n t : Nat) (nw jt bg lv : Nat → Int32), t + d = 2000 → d < n → qy_R p (qn_ps p t) nw jt bg lv → wY_play_30 post n (nI (qy_lf p (qn_ps p t))) (nI t) (nI (qp_m p)) (qp_SV p) (qp_RU p) (qp_AR p) (qp_VC p) (qp_VS p) (qp_VN p) jt bg lv nw := by
  have hm := ok.1
  intro d
  induction d with
  | zero =>
    intro n t nw jt bg lv h1 h2 R
    obtain ⟨n, rfl⟩ : ∃ m, n = m + 1 := ⟨n - 1, by omega⟩
    rw [wY_play_30]
    exact br_t (nI_le (a := 2000) (by omega) (by omega)) (h nw jt bg lv (qn_Tm_R ok (by omega) (qn_gone ok (by omega)) R.2.2))
  | succ d ih =>
    intro n t nw jt bg lv h1 h2 R
    obtain ⟨n, rfl⟩ : ∃ m, n = m + 1 := ⟨n - 1, by omega⟩
    rw [wY_play_30]
    have hle := qy_lf_le (p := p) (S := qn_ps p t)
    refine br_f (nI_ge (b := 2000) (by omega) (by decide)) ?_
    rcases Nat.eq_zero_or_pos (qy_lf p (qn_ps p t)) with z | z
    · exact br_t (by rw [z]; exact nI_le (a := 0) (b := 0) (by omega) (by omega)) (h nw jt bg lv (qn_Tm_R ok (by omega) (qy_lf_0 z) R.2.2))
    · refine br_f (nI_nle (by omega) (by omega)) ?_
      have A := qn_A_ps ok t
      have L := yl_43 (post := post) (J30 := wY_play_30 post n) ok A (by omega) (fun nw' jt' bg' lv' R' => ⟨5, yl_183 (S := qn_ev p t (qn_fi p t (qn_ps p t)) (qn_ps p t)) ok (by omega) (fun bg2 K2 R2 => ?_) 4 5 0 bg' (by omega) (by omega) ?_ R'⟩) (qp_m p) (qp_m p + 1) 0 nw jt bg lv (by omega) (by omega)
      · rw [qy_D_0] at L
        exact ⟨qp_m p + 1, L R⟩
      · have e : qn_fs p t (qn_ev p t (qn_fi p t (qn_ps p t)) (qn_ps p t)) 4 = qn_ps p (t + 1) := rfl
        rw [e] at R2
        have I := ih n (t + 1) nw' jt' bg2 lv' (by omega) (by omega) R2
        have el : qy_lf p (qn_ps p (t + 1)) = qy_lf p (qn_ev p t (qn_fi p t (qn_ps p t)) (qn_ps p t)) := qy_lf_st
        rw [el] at I
        exact I
      · have K := qy_KD (i := qp_m p) ok A
        rw [qy_D_m] at K
        exact K
theorem yl_2 {post : SY → Prop} (ok : qp_ok p) (h : ∀ nw jt bg lv, qn_Rs p jt bg lv → post ((nI (qp_m p)), (qp_SV p), (qp_RU p), (qp_AR p), (qp_VC p), (qp_VS p), (qp_VN p), jt, bg, lv, nw)) :
    ∀ (d n c : Nat) (nw : Nat → Int32), c + d = qp_m p → d < n → (∀ b, b < c → nw b = nI 4) → wY_play_2 post (nI (qp_m p)) n (nI c) (qp_SV p) (qp_RU p) (qp_AR p) (qp_VC p) (qp_VS p) (qp_VN p) jT bG lV nw := by
  have hm := ok.1
  intro d
  induction d with
  | zero =>
    intro n c nw h1 h2 h3
    obtain ⟨n, rfl⟩ : ∃ m, n = m + 1 := ⟨n - 1, by omega⟩
    rw [wY_play_2]
    have R : qy_R p (qn_ps p 0) nw jT bG lV := qy_R0 (fun c' hc => h3 c' (by omega))
    have L := yl_30 ok h 2000 2001 0 nw jT bG lV (by omega) (by omega) R
    have e0 : qy_lf p (qn_ps p 0) = qp_m p := qy_lf_s
    rw [e0] at L
    exact br_t (nI_le (by omega) (by omega)) ⟨2001, L⟩
  | succ d ih =>
    intro n c nw h1 h2 h3
    obtain ⟨n, rfl⟩ : ∃ m, n = m + 1 := ⟨n - 1, by omega⟩
    rw [wY_play_2]
    have e : (nI c).toNatClampNeg = c := nI_clamp (by omega)
    refine br_f (nI_ge (by omega) (by omega)) ⟨vp_in_nI (by omega) (by omega), nm_r (e' := upd nw c (nI 4)) (congrArg (fun i => upd nw i (nI 4)) e) (nm_r (nI_1 c) (ih n (c + 1) _ (by omega) (by omega) (fun b hb => ?_)))⟩
    by_cases f : b = c
    · rw [f, pk_us]
    · rw [pk_un f]; exact h3 b (by omega)
theorem yl_pl {post : SY → Prop} (ok : qp_ok p) (h : ∀ nw jt bg lv, qn_Rs p jt bg lv → post ((nI (qp_m p)), (qp_SV p), (qp_RU p), (qp_AR p), (qp_VC p), (qp_VS p), (qp_VN p), jt, bg, lv, nw)) : wpY_play post ((nI (qp_m p)), (qp_SV p), (qp_RU p), (qp_AR p), (qp_VC p), (qp_VS p), (qp_VN p), jT, bG, lV, nW) :=
  ⟨qp_m p + 1, yl_2 ok h (qp_m p) (qp_m p + 1) 0 nW (by omega) (by omega) (fun b hb => absurd hb (by omega))⟩
end YR
end
section
def qy_do (p : qp_T) (s : Int32) (t kd i : Nat) : Bool := decide (i / 4 < qp_m p ∧ i % 4 < qp_vc p (i / 4) ∧ nI (qp_vs p i) = s ∧ qq_J p i ≤ t ∧ t < qq_E p i ∧ (kd = 0 ∨ (kd = 1 ∧ t < qq_B p i) ∨ (kd = 2 ∧ qq_B p i ≤ t)))
theorem qy_do_iff {p : qp_T} {s : Int32} {t kd i : Nat} : qy_do p s t kd i = true ↔ (i / 4 < qp_m p ∧ i % 4 < qp_vc p (i / 4) ∧ nI (qp_vs p i) = s ∧ qq_J p i ≤ t ∧ t < qq_E p i ∧ (kd = 0 ∨ (kd = 1 ∧ t < qq_B p i) ∨ (kd = 2 ∧ qq_B p i ≤ t))) := by unfold qy_do; exact decide_eq_true_iff
theorem qy_do_s {p : qp_T} (ok : qp_ok p) {s t kd i : Nat} (hs : s < 4) : qy_do p (nI s) t kd i = qq_do p s t kd i := by
  unfold qy_do qq_do
  refine decide_eq_decide.mpr ⟨fun z => ⟨z.1, z.2.1, ?_, z.2.2.2⟩, fun z => ⟨z.1, z.2.1, by rw [z.2.2.1], z.2.2.2⟩⟩
  have h := ((ok.2.2 _ z.1).2.2 _ z.2.1).1
  have e : 4 * (i / 4) + i % 4 = i := by omega
  rw [e] at h
  exact (nI_eq (by omega) (by omega)).mp z.2.2.1
def qy_n (p : qp_T) (s : Int32) (t kd : Nat) : Nat := qs_cnt (qy_do p s t kd) 48
theorem qy_n_s {p : qp_T} (ok : qp_ok p) {s t kd : Nat} (hs : s < 4) : qy_n p (nI s) t kd = qq_n p s t kd := qs_cnt_ext (fun _ _ => qy_do_s ok hs)
section YA
variable {p : qp_T} {jT bG lV nW : Nat → Int32}
theorem yb_st_t {post : Int32 → Prop} {s : Nat} (hs : s < 4) (h : post 1) : wpY_isStation post ((nI (qp_m p)), (qp_SV p), (qp_RU p), (qp_AR p), (qp_VC p), (qp_VS p), (qp_VN p), jT, bG, lV, nW) (nI s) :=
  br_f (nI_pos (by omega)) (br_f (nI_nlt (a := 3) (b := s) (by omega) (by decide)) h)
theorem yb_st_f {post : Int32 → Prop} {v : Int32} (hs : ¬ ix_v v 4) (h : post 0) : wpY_isStation post ((nI (qp_m p)), (qp_SV p), (qp_RU p), (qp_AR p), (qp_VC p), (qp_VS p), (qp_VN p), jT, bG, lV, nW) v := by
  rcases ix_f1 (n := 3) (by omega) hs with a | ⟨a, b⟩
  · exact br_t a h
  · exact br_f a (br_t b h)
theorem yb_en_t {post : Int32 → Prop} {s : Nat} (hs : s < 4) (h : post 1) : wpY_engine post ((nI (qp_m p)), (qp_SV p), (qp_RU p), (qp_AR p), (qp_VC p), (qp_VS p), (qp_VN p), jT, bG, lV, nW) (nI s) :=
  br_f (nI_pos (by omega)) (br_f (nI_nlt (a := 3) (b := s) (by omega) (by decide)) h)
theorem yb_en_f {post : Int32 → Prop} {v : Int32} (hs : ¬ ix_v v 4) (h : post 0) : wpY_engine post ((nI (qp_m p)), (qp_SV p), (qp_RU p), (qp_AR p), (qp_VC p), (qp_VS p), (qp_VN p), jT, bG, lV, nW) v := by
  rcases ix_f1 (n := 3) (by omega) hs with a | ⟨a, b⟩
  · exact br_t a h
  · exact br_f a (br_t b h)
theorem yb_tm_t {post : Int32 → Prop} {t : Nat} (ht : t < 10001) (h : post 1) : wpY_isTime post ((nI (qp_m p)), (qp_SV p), (qp_RU p), (qp_AR p), (qp_VC p), (qp_VS p), (qp_VN p), jT, bG, lV, nW) (nI t) :=
  br_f (nI_pos (by omega)) (br_f (nI_nlt (a := 10000) (b := t) (by omega) (by decide)) h)
theorem yb_tm_f {post : Int32 → Prop} {v : Int32} (hs : ¬ ix_v v 10001) (h : post 0) : wpY_isTime post ((nI (qp_m p)), (qp_SV p), (qp_RU p), (qp_AR p), (qp_VC p), (qp_VS p), (qp_VN p), jT, bG, lV, nW) v := by
  rcases ix_f1 (n := 10000) (by omega) hs with a | ⟨a, b⟩
  · exact br_t a h
  · exact br_f a (br_t b h)
theorem yb_cu_t {post : Int32 → Prop} {c : Nat} (hm : qp_m p ≤ 12) (hc : c < qp_m p) (h : post 1) : wpY_is post ((nI (qp_m p)), (qp_SV p), (qp_RU p), (qp_AR p), (qp_VC p), (qp_VS p), (qp_VN p), jT, bG, lV, nW) (nI c) :=
  br_f (nI_pos (by omega)) (br_f (nI_ge hc (by omega)) h)
theorem yb_cu_f {post : Int32 → Prop} {v : Int32} (hm : qp_m p ≤ 12) (hs : ¬ ix_v v (qp_m p)) (h : post 0) : wpY_is post ((nI (qp_m p)), (qp_SV p), (qp_RU p), (qp_AR p), (qp_VC p), (qp_VS p), (qp_VN p), jT, bG, lV, nW) v := by
  rcases ix_f (by omega) hs with a | ⟨a, b⟩
  · exact br_t a h
  · exact br_f a (br_t b h)
theorem yb_vi_t {post : Int32 → Prop} {c k : Nat} (ok : qp_ok p) (hc : c < qp_m p) (hk : k < qp_vc p c) (h : post 1) : wpY_isVisit post ((nI (qp_m p)), (qp_SV p), (qp_RU p), (qp_AR p), (qp_VC p), (qp_VS p), (qp_VN p), jT, bG, lV, nW) (nI c) (nI k) := by
  have hm := ok.1
  have hv := (ok.2.2 c hc).2.1
  unfold wpY_isVisit
  dsimp only
  refine yb_cu_t hm hc (br_f (by decide) (br_f (nI_pos (by omega)) ⟨vp_in_nI (by omega) (by omega), ?_⟩))
  rw [nI_clamp (by omega), qp_VCe]
  exact br_f (nI_ge hk (by omega)) h
theorem yb_vi_f {post : Int32 → Prop} {v w : Int32} (ok : qp_ok p) (hn : ¬ jx_v p v w) (h : post 0) : wpY_isVisit post ((nI (qp_m p)), (qp_SV p), (qp_RU p), (qp_AR p), (qp_VC p), (qp_VS p), (qp_VN p), jT, bG, lV, nW) v w := by
  have hm := ok.1
  unfold wpY_isVisit
  dsimp only
  by_cases a : ix_v v (qp_m p)
  · obtain ⟨c, hc, rfl⟩ := a
    have hv := (ok.2.2 c hc).2.1
    refine yb_cu_t hm hc (br_f (by decide) ?_)
    rcases ix_f (v := w) (n := qp_vc p c) (by omega) (fun z => by obtain ⟨k, hk, e⟩ := z; exact hn ⟨c, k, hc, hk, rfl, e⟩) with b | ⟨b, b'⟩
    · exact br_t b h
    · refine br_f b ⟨vp_in_nI (by omega) (by omega), ?_⟩
      rw [nI_clamp (by omega), qp_VCe]
      exact br_t b' h
  · exact yb_cu_f hm a (br_t rfl h)
theorem yq_do {post : Int32 → Prop} {s : Int32} {t kd i : Nat} (ok : qp_ok p) (Rs : qn_Rs p jT bG lV) (hi : i < 48) (ht : t ≤ 10000) (hkd : kd ≤ 2) (h1 : qy_do p s t kd i = true → post 1) (h0 : ¬ qy_do p s t kd i = true → post 0) : wpY_does post ((nI (qp_m p)), (qp_SV p), (qp_RU p), (qp_AR p), (qp_VC p), (qp_VS p), (qp_VN p), jT, bG, lV, nW) (nI i) s (nI t) (nI kd) := by
  have hm := ok.1
  have ed : nI i / 4 = nI (i / 4) := pk_div (d := 4) (by omega) (by omega) (by omega)
  have er : nI i - nI i / 4 * 4 = nI (i % 4) := pk_rem (d := 4) (by omega) (by omega) (by omega)
  have ei : (nI i).toNatClampNeg = i := nI_clamp (by omega)
  have wi : vp_in (nI i) 48 := vp_in_nI hi (by omega)
  have e4 : 4 * (i / 4) + i % 4 = i := by omega
  rw [qy_do_iff] at h1 h0
  refine ⟨by decide, by decide, ?_⟩
  rw [er, ed]
  by_cases v : i / 4 < qp_m p ∧ i % 4 < qp_vc p (i / 4)
  · obtain ⟨v1, v2⟩ := v
    obtain ⟨b1, b2, b3, b4, b5⟩ := qq_fb ok v1 v2
    obtain ⟨rj, rb⟩ := qq_RJ Rs v1 v2
    have hvn : qq_E p (4 * (i / 4) + i % 4) = qq_B p (4 * (i / 4) + i % 4) + qp_vn p (4 * (i / 4) + i % 4) := rfl
    rw [e4] at b1 b2 b3 b4 b5 rj rb hvn
    refine yb_vi_t ok v1 v2 (br_f (by decide) ⟨wi, ?_⟩)
    rw [ei, qp_VSe, rj, rb, qp_VNe, nI_add, ← hvn]
    by_cases g1 : nI (qp_vs p i) = s
    · refine br_t g1 ⟨wi, ?_⟩
      by_cases g2 : qq_J p i ≤ t
      · refine br_f (nI_nlt g2 (by omega)) ⟨wi, wi, ?_⟩
        by_cases g3 : t < qq_E p i
        · refine br_f (nI_ge g3 (by omega)) (br_f (by decide) ?_)
          by_cases k0 : kd = 0
          · exact br_t (by rw [k0]; rfl) (h1 ⟨v1, v2, g1, g2, g3, Or.inl k0⟩)
          · refine br_f (fun z => k0 ((nI_eq (b := 0) (by omega) (by omega)).mp z)) ?_
            by_cases k1 : kd = 1
            · refine br_t (by rw [k1]; rfl) ⟨wi, ?_⟩
              rw [ei, rb]
              by_cases g4 : t < qq_B p i
              · exact br_f (nI_ge g4 (by omega)) (br_t rfl (h1 ⟨v1, v2, g1, g2, g3, Or.inr (Or.inl ⟨k1, g4⟩)⟩))
              · exact br_t (nI_le (by omega) (by omega)) (br_f (by decide) (h0 (fun z => by have := z.2.2.2.2.2; omega)))
            · refine br_f (fun z => k1 ((nI_eq (b := 1) (by omega) (by omega)).mp z)) ⟨wi, ?_⟩
              rw [ei, rb]
              by_cases g4 : t < qq_B p i
              · exact br_f (nI_ge g4 (by omega)) (br_f (by decide) (h0 (fun z => by have := z.2.2.2.2.2; omega)))
              · exact br_t (nI_le (by omega) (by omega)) (br_t rfl (h1 ⟨v1, v2, g1, g2, g3, Or.inr (Or.inr ⟨by omega, by omega⟩)⟩))
        · exact br_t (nI_le (by omega) (by omega)) (br_t rfl (h0 (fun z => g3 z.2.2.2.2.1)))
      · exact br_t (nI_lt (by omega) (by omega)) (br_t rfl (h0 (fun z => g2 z.2.2.2.1)))
    · exact br_f g1 (br_t rfl (h0 (fun z => g1 z.2.2.1)))
  · refine yb_vi_f ok (fun z => ?_) (br_t rfl (br_t rfl (h0 (fun z => v ⟨z.1, z.2.1⟩))))
    obtain ⟨c, k, hc, hk, e1, e2⟩ := z
    have hv := (ok.2.2 c hc).2.1
    have f1 := (nI_eq (by omega) (by omega)).mp e1
    have f2 := (nI_eq (by omega) (by omega)).mp e2
    rw [← f1, ← f2] at hk
    rw [← f1] at hc
    exact v ⟨hc, hk⟩
theorem yq_nu_l {post : Int32 → Prop} {s : Int32} {t kd : Nat} (ok : qp_ok p) (Rs : qn_Rs p jT bG lV) (ht : t ≤ 10000) (hkd : kd ≤ 2) (h : post (nI (qy_n p s t kd))) :
    ∀ (d n i : Nat), i + d = 48 → d < n → wY_number_6 post s (nI t) (nI kd) (nI (qp_m p)) (qp_SV p) (qp_RU p) (qp_AR p) (qp_VC p) (qp_VS p) (qp_VN p) jT bG lV nW n (nI (qs_cnt (qy_do p s t kd) i)) (nI i) := by
  intro d
  induction d with
  | zero =>
    intro n i h1 h2
    obtain ⟨n, rfl⟩ : ∃ m, n = m + 1 := ⟨n - 1, by omega⟩
    rw [wY_number_6]
    have e : i = 48 := by omega
    subst e
    exact br_t (nI_le (a := 48) (b := 48) (by omega) (by omega)) h
  | succ d ih =>
    intro n i h1 h2
    obtain ⟨n, rfl⟩ : ∃ m, n = m + 1 := ⟨n - 1, by omega⟩
    rw [wY_number_6]
    have I := ih n (i + 1) (by omega) (by omega)
    refine br_f (nI_ge (b := 48) (by omega) (by decide)) (yq_do ok Rs (by omega) ht hkd (fun z => ?_) (fun z => ?_))
    · rw [qs_cnt_t z] at I
      exact br_f (by decide) (nm_r (nI_1 _) (nm_r (nI_1 i) I))
    · rw [qs_cnt_f z] at I
      exact br_t rfl (nm_r (nI_1 i) I)
theorem yq_nu {post : Int32 → Prop} {s : Int32} {t kd : Nat} (ok : qp_ok p) (Rs : qn_Rs p jT bG lV) (ht : t ≤ 10000) (hkd : kd ≤ 2) (h : post (nI (qy_n p s t kd))) : wpY_number post ((nI (qp_m p)), (qp_SV p), (qp_RU p), (qp_AR p), (qp_VC p), (qp_VS p), (qp_VN p), jT, bG, lV, nW) s (nI t) (nI kd) :=
  ⟨49, yq_nu_l ok Rs ht hkd h 48 49 0 (by omega) (by omega)⟩
theorem yq_la_l {post : Int32 → Prop} (ok : qp_ok p) (Rs : qn_Rs p jT bG lV) (h : post (nI (qq_la p))) :
    ∀ (d n c : Nat), c + d = qp_m p → d < n → wY_last_4 post (nI (qp_m p)) (qp_SV p) (qp_RU p) (qp_AR p) (qp_VC p) (qp_VS p) (qp_VN p) jT bG lV nW n (nI (qq_mx (qq_L p) c)) (nI c) := by
  have hm := ok.1
  intro d
  induction d with
  | zero =>
    intro n c h1 h2
    obtain ⟨n, rfl⟩ : ∃ m, n = m + 1 := ⟨n - 1, by omega⟩
    rw [wY_last_4]
    have ec : c = qp_m p := by omega
    subst ec
    exact br_t (nI_le (by omega) (by omega)) h
  | succ d ih =>
    intro n c h1 h2
    obtain ⟨n, rfl⟩ : ∃ m, n = m + 1 := ⟨n - 1, by omega⟩
    rw [wY_last_4]
    have hc : c < qp_m p := by omega
    have I := ih n (c + 1) (by omega) (by omega)
    have ec : (nI c).toNatClampNeg = c := nI_clamp (by omega)
    have wc : vp_in (nI c) 12 := vp_in_nI (by omega) (by omega)
    have lc : qq_L p c ≤ 1540 := (qn_R_f ok hc).1
    have lm : qq_mx (qq_L p) c ≤ 1540 := qq_mx_le (fun b hb => (qn_R_f ok (by omega)).1)
    refine br_f (nI_ge hc (by omega)) ⟨wc, ?_⟩
    rw [ec, qq_RL Rs hc]
    rw [qq_mx_s] at I
    by_cases g : qq_mx (qq_L p) c < qq_L p c
    · rw [if_pos g] at I
      exact br_f (nI_ge g (by omega)) ⟨wc, nm_e (nm_r (nI_1 c) I)⟩
    · rw [if_neg g] at I
      exact br_t (nI_le (by omega) (by omega)) (nm_r (nI_1 c) I)
theorem yq_la {post : Int32 → Prop} (ok : qp_ok p) (Rs : qn_Rs p jT bG lV) (h : post (nI (qq_la p))) : wpY_last post ((nI (qp_m p)), (qp_SV p), (qp_RU p), (qp_AR p), (qp_VC p), (qp_VS p), (qp_VN p), jT, bG, lV, nW) :=
  ⟨qp_m p + 1, yq_la_l ok Rs h (qp_m p) (qp_m p + 1) 0 (by omega) (by omega)⟩
theorem yq_ar {post : Int32 → Prop} {s e : Nat} (ok : qp_ok p) (Rs : qn_Rs p jT bG lV) (hs : s < 4) (he : e ≤ 10000) (h : post (nI (qq_ar p s e))) :
    ∀ (d n t : Nat), t + d = e → d < n → wY_area_23 post (nI s) (nI e) (nI (qp_m p)) (qp_SV p) (qp_RU p) (qp_AR p) (qp_VC p) (qp_VS p) (qp_VN p) jT bG lV nW n (nI (qq_ar p s t)) (nI t) := by
  have hl := qq_la_le ok
  intro d
  induction d with
  | zero =>
    intro n t h1 h2
    obtain ⟨n, rfl⟩ : ∃ m, n = m + 1 := ⟨n - 1, by omega⟩
    rw [wY_area_23]
    have et : t = e := by omega
    subst et
    exact br_t (nI_le (by omega) (by omega)) h
  | succ d ih =>
    intro n t h1 h2
    obtain ⟨n, rfl⟩ : ∃ m, n = m + 1 := ⟨n - 1, by omega⟩
    rw [wY_area_23]
    have I := ih n (t + 1) (by omega) (by omega)
    rw [qq_ar_s] at I
    refine br_f (nI_ge (by omega) (by omega)) (yq_la ok Rs ?_)
    by_cases g : t < qq_la p
    · refine br_f (nI_ge g (by omega)) (yq_nu (kd := 0) ok Rs (by omega) (by omega) ?_)
      rw [qy_n_s ok hs, nI_add]
      exact nm_e (nm_r (nI_1 t) I)
    · rw [qq_ar_z ok (show qq_la p ≤ e by omega), ← qq_ar_z ok (show qq_la p ≤ t by omega)] at h
      exact br_t (nI_le (by omega) (by omega)) h
theorem yq_bu {post : Int32 → Prop} {v : Int32} (ok : qp_ok p) (Rs : qn_Rs p jT bG lV) (h : ∀ s, s < 4 → v = nI s → post (nI (qq_bs p s (qq_la p)))) (h0 : ¬ ix_v v 4 → post (-1)) :
    ∀ (d n t : Nat) (x : Int32), t + d = qq_la p → d < n → (∀ s, s < 4 → v = nI s → x = nI (qq_bs p s t)) → wY_busy_4 post v (nI (qp_m p)) (qp_SV p) (qp_RU p) (qp_AR p) (qp_VC p) (qp_VS p) (qp_VN p) jT bG lV nW n x (nI t) := by
  have hl := qq_la_le ok
  intro d
  induction d with
  | zero =>
    intro n t x h1 h2 h3
    obtain ⟨n, rfl⟩ : ∃ m, n = m + 1 := ⟨n - 1, by omega⟩
    rw [wY_busy_4]
    refine yq_la ok Rs (br_t (nI_le (by omega) (by omega)) ?_)
    have et : t = qq_la p := by omega
    subst et
    by_cases a : ix_v v 4
    · obtain ⟨s, hs, rfl⟩ := a
      refine yb_st_t hs (br_f (by decide) ?_)
      rw [h3 s hs rfl]
      exact h s hs rfl
    · exact yb_st_f a (br_t rfl (h0 a))
  | succ d ih =>
    intro n t x h1 h2 h3
    obtain ⟨n, rfl⟩ : ∃ m, n = m + 1 := ⟨n - 1, by omega⟩
    rw [wY_busy_4]
    have hn : qy_n p v t 2 ≤ 48 := qs_cnt_le _ _
    refine yq_la ok Rs (br_f (nI_ge (by omega) (by omega)) (yq_nu (kd := 2) ok Rs (by omega) (by omega) ?_))
    by_cases g : 0 < qy_n p v t 2
    · refine br_f (nI_nle g (by omega)) (nm_e (nm_r (nI_1 t) (ih n (t + 1) _ (by omega) (by omega) (fun s hs e => ?_))))
      rw [h3 s hs e]
      unfold qq_bs
      rw [e, qy_n_s ok hs] at g
      rw [qs_cnt_t (decide_eq_true g), nI_1]
    · refine br_t (nI_le (b := 0) (by omega) (by omega)) (nm_r (nI_1 t) (ih n (t + 1) _ (by omega) (by omega) (fun s hs e => ?_)))
      rw [h3 s hs e]
      unfold qq_bs
      rw [e, qy_n_s ok hs] at g
      rw [qs_cnt_f (fun z => g (of_decide_eq_true z))]
theorem yq_lo {post : Int32 → Prop} {v : Int32} (ok : qp_ok p) (Rs : qn_Rs p jT bG lV) (h : ∀ s, s < 4 → v = nI s → post (nI (qq_lo p s (qq_la p)))) (h0 : ¬ ix_v v 4 → post (-1)) :
    ∀ (d n t x : Nat), t + d = qq_la p → d < n → x ≤ 48 → (∀ s, s < 4 → v = nI s → x = qq_lo p s t) → wY_longest_4 post v (nI (qp_m p)) (qp_SV p) (qp_RU p) (qp_AR p) (qp_VC p) (qp_VS p) (qp_VN p) jT bG lV nW n (nI x) (nI t) := by
  have hl := qq_la_le ok
  intro d
  induction d with
  | zero =>
    intro n t x h1 h2 hx h3
    obtain ⟨n, rfl⟩ : ∃ m, n = m + 1 := ⟨n - 1, by omega⟩
    rw [wY_longest_4]
    refine yq_la ok Rs (br_t (nI_le (by omega) (by omega)) ?_)
    have et : t = qq_la p := by omega
    subst et
    by_cases a : ix_v v 4
    · obtain ⟨s, hs, rfl⟩ := a
      refine yb_st_t hs (br_f (by decide) ?_)
      rw [h3 s hs rfl]
      exact h s hs rfl
    · exact yb_st_f a (br_t rfl (h0 a))
  | succ d ih =>
    intro n t x h1 h2 hx h3
    obtain ⟨n, rfl⟩ : ∃ m, n = m + 1 := ⟨n - 1, by omega⟩
    rw [wY_longest_4]
    have hn : qy_n p v t 1 ≤ 48 := qs_cnt_le _ _
    refine yq_la ok Rs (br_f (nI_ge (by omega) (by omega)) (yq_nu (kd := 1) ok Rs (by omega) (by omega) ?_))
    by_cases g : x < qy_n p v t 1
    · refine br_f (nI_ge g (by omega)) (nm_r (nI_1 t) (ih n (t + 1) _ (by omega) (by omega) hn (fun s hs e => ?_)))
      rw [h3 s hs e] at g
      rw [e, qy_n_s ok hs] at g ⊢
      unfold qq_lo at g ⊢
      rw [qq_mx_s, if_pos g]
    · refine br_t (nI_le (by omega) (by omega)) (nm_r (nI_1 t) (ih n (t + 1) _ (by omega) (by omega) hx (fun s hs e => ?_)))
      rw [h3 s hs e] at g ⊢
      rw [e, qy_n_s ok hs] at g
      unfold qq_lo at g ⊢
      rw [qq_mx_s, if_neg g]
theorem yq_or_i {post : Int32 → Prop} {J2 : _} {v : Int32} {c : Nat} (ok : qp_ok p) (Rs : qn_Rs p jT bG lV) (hc : c < qp_m p) (h : nI (qq_be p c) = v → post (nI c)) (hJ : ¬ nI (qq_be p c) = v → J2 (nI (c + 1))) :
    ∀ (d n b : Nat), b + d = qp_m p → d < n → wY_order_15 post J2 v (nI c) (nI (qp_m p)) (qp_SV p) (qp_RU p) (qp_AR p) (qp_VC p) (qp_VS p) (qp_VN p) jT bG lV nW n (nI (qs_cnt (qq_bb p c) b)) (nI b) := by
  have hm := ok.1
  intro d
  induction d with
  | zero =>
    intro n b h1 h2
    obtain ⟨n, rfl⟩ : ∃ m, n = m + 1 := ⟨n - 1, by omega⟩
    rw [wY_order_15]
    have eb : b = qp_m p := by omega
    subst eb
    exact br_t (nI_le (by omega) (by omega)) (br_c (fun z => h z) (fun z => nm_r (nI_1 c) (hJ z)))
  | succ d ih =>
    intro n b h1 h2
    obtain ⟨n, rfl⟩ : ∃ m, n = m + 1 := ⟨n - 1, by omega⟩
    rw [wY_order_15]
    have hb : b < qp_m p := by omega
    have I := ih n (b + 1) (by omega) (by omega)
    have ec : (nI c).toNatClampNeg = c := nI_clamp (by omega)
    have eb : (nI b).toNatClampNeg = b := nI_clamp (by omega)
    have wc : vp_in (nI c) 12 := vp_in_nI (by omega) (by omega)
    have wb : vp_in (nI b) 12 := vp_in_nI (by omega) (by omega)
    have lc : qq_L p c ≤ 1540 := (qn_R_f ok hc).1
    have lb : qq_L p b ≤ 1540 := (qn_R_f ok hb).1
    have rc := qq_RL Rs hc
    have rb := qq_RL Rs hb
    refine br_f (nI_ge hb (by omega)) ⟨wb, wc, ?_⟩
    rw [eb, ec, rb, rc]
    by_cases g1 : qq_L p b < qq_L p c
    · have t : qq_bb p c b = true := decide_eq_true (Or.inl g1)
      rw [qs_cnt_t t] at I
      exact br_t (nI_lt g1 (by omega)) (nm_r (nI_1 _) (nm_r (nI_1 b) I))
    · refine br_f (nI_nlt (by omega) (by omega)) ⟨wb, wc, ?_⟩
      by_cases g2 : qq_L p b = qq_L p c
      · refine br_t (by rw [g2]) ?_
        by_cases g3 : b < c
        · have t : qq_bb p c b = true := decide_eq_true (Or.inr ⟨g2, g3⟩)
          rw [qs_cnt_t t] at I
          exact br_f (nI_ge g3 (by omega)) (nm_r (nI_1 _) (nm_r (nI_1 b) I))
        · have t : ¬ qq_bb p c b = true := fun z => by have := of_decide_eq_true z; omega
          rw [qs_cnt_f t] at I
          exact br_t (nI_le (by omega) (by omega)) (nm_r (nI_1 b) I)
      · have t : ¬ qq_bb p c b = true := fun z => by have := of_decide_eq_true z; omega
        rw [qs_cnt_f t] at I
        exact br_f (fun z => g2 ((nI_eq (by omega) (by omega)).mp z)) (nm_r (nI_1 b) I)
theorem yq_or_o {post : Int32 → Prop} {v : Int32} (ok : qp_ok p) (Rs : qn_Rs p jT bG lV) (h : ∀ r, qq_or p v (qp_m p) r → post r) :
    ∀ (d n c : Nat), c + d = qp_m p → d < n → qq_or p v c (-1) → wY_order_2 post v (nI (qp_m p)) (qp_SV p) (qp_RU p) (qp_AR p) (qp_VC p) (qp_VS p) (qp_VN p) jT bG lV nW n (nI c) := by
  have hm := ok.1
  intro d
  induction d with
  | zero =>
    intro n c h1 h2 h3
    obtain ⟨n, rfl⟩ : ∃ m, n = m + 1 := ⟨n - 1, by omega⟩
    rw [wY_order_2]
    have ec : c = qp_m p := by omega
    subst ec
    exact br_t (nI_le (by omega) (by omega)) (h _ h3)
  | succ d ih =>
    intro n c h1 h2 h3
    obtain ⟨n, rfl⟩ : ∃ m, n = m + 1 := ⟨n - 1, by omega⟩
    rw [wY_order_2]
    have hc : c < qp_m p := by omega
    exact br_f (nI_ge hc (by omega)) ⟨qp_m p + 1, yq_or_i ok Rs hc (fun z => h _ (Or.inl ⟨c, hc, z, rfl⟩)) (fun z => ih n (c + 1) (by omega) (by omega) (qq_or_n z h3)) (qp_m p) (qp_m p + 1) 0 (by omega) (by omega)⟩
theorem yq_or {post : Int32 → Prop} {v : Int32} (ok : qp_ok p) (Rs : qn_Rs p jT bG lV) (h : ∀ r, qq_or p v (qp_m p) r → post r) : wpY_order post ((nI (qp_m p)), (qp_SV p), (qp_RU p), (qp_AR p), (qp_VC p), (qp_VS p), (qp_VN p), jT, bG, lV, nW) v :=
  ⟨qp_m p + 1, yq_or_o ok Rs h (qp_m p) (qp_m p + 1) 0 (by omega) (by omega) (Or.inr ⟨rfl, fun b hb => absurd hb (by omega)⟩)⟩
end YA
end
section
section YU
variable {p : qp_T} {jT bG lV nW : Nat → Int32} {post : Int32 → Prop} {v1 v2 : Int32}
theorem yp_leaves_t {e c : Nat} (ok : qp_ok p) (Rs : qn_Rs p jT bG lV) (he : e < 4) (hc : c < qp_m p) (h : post (nI (qq_L p c))) : wpY_leaves post ((nI (qp_m p)), (qp_SV p), (qp_RU p), (qp_AR p), (qp_VC p), (qp_VS p), (qp_VN p), jT, bG, lV, nW) (nI e) (nI c) := by
  have hm := ok.1
  unfold wpY_leaves
  dsimp only
  refine yb_en_t he (br_f (by decide) (yb_cu_t hm hc (br_f (by decide) ⟨vp_in_nI (by omega) (by omega), ?_⟩)))
  rw [nI_clamp (by omega), qq_RL Rs hc]
  exact h
theorem yp_leaves_f (ok : qp_ok p) (hn : ¬ (ix_v v1 4 ∧ ix_v v2 (qp_m p))) (h : post (-1)) : wpY_leaves post ((nI (qp_m p)), (qp_SV p), (qp_RU p), (qp_AR p), (qp_VC p), (qp_VS p), (qp_VN p), jT, bG, lV, nW) v1 v2 := by
  have hm := ok.1
  unfold wpY_leaves
  dsimp only
  by_cases a : ix_v v1 4
  · obtain ⟨e, he, rfl⟩ := a
    exact yb_en_t he (br_f (by decide) (yb_cu_f hm (fun z => hn ⟨⟨e, he, rfl⟩, z⟩) (br_t rfl h)))
  · exact yb_en_f a (br_t rfl h)
theorem yp_joins_t {c k : Nat} (ok : qp_ok p) (Rs : qn_Rs p jT bG lV) (hc : c < qp_m p) (hk : k < qp_vc p c) (h : post (nI (qq_J p (4 * c + k)))) : wpY_joins post ((nI (qp_m p)), (qp_SV p), (qp_RU p), (qp_AR p), (qp_VC p), (qp_VS p), (qp_VN p), jT, bG, lV, nW) (nI c) (nI k) := by
  have hm := ok.1
  have hv := (ok.2.2 c hc).2.1
  unfold wpY_joins
  dsimp only
  refine yb_vi_t ok hc hk (br_f (by decide) ?_)
  rw [yl_c4, nI_clamp (by omega), (qq_RJ Rs hc hk).1]
  exact ⟨vp_in_nI (by omega) (by omega), h⟩
theorem yp_joins_f (ok : qp_ok p) (hn : ¬ jx_v p v1 v2) (h : post (-1)) : wpY_joins post ((nI (qp_m p)), (qp_SV p), (qp_RU p), (qp_AR p), (qp_VC p), (qp_VS p), (qp_VN p), jT, bG, lV, nW) v1 v2 := by
  unfold wpY_joins
  dsimp only
  exact yb_vi_f ok hn (br_t rfl h)
theorem yp_begins_t {c k : Nat} (ok : qp_ok p) (Rs : qn_Rs p jT bG lV) (hc : c < qp_m p) (hk : k < qp_vc p c) (h : post (nI (qq_B p (4 * c + k)))) : wpY_begins post ((nI (qp_m p)), (qp_SV p), (qp_RU p), (qp_AR p), (qp_VC p), (qp_VS p), (qp_VN p), jT, bG, lV, nW) (nI c) (nI k) := by
  have hm := ok.1
  have hv := (ok.2.2 c hc).2.1
  unfold wpY_begins
  dsimp only
  refine yb_vi_t ok hc hk (br_f (by decide) ?_)
  rw [yl_c4, nI_clamp (by omega), (qq_RJ Rs hc hk).2]
  exact ⟨vp_in_nI (by omega) (by omega), h⟩
theorem yp_begins_f (ok : qp_ok p) (hn : ¬ jx_v p v1 v2) (h : post (-1)) : wpY_begins post ((nI (qp_m p)), (qp_SV p), (qp_RU p), (qp_AR p), (qp_VC p), (qp_VS p), (qp_VN p), jT, bG, lV, nW) v1 v2 := by
  unfold wpY_begins
  dsimp only
  exact yb_vi_f ok hn (br_t rfl h)
theorem yp_at_t {s t : Nat} (ok : qp_ok p) (Rs : qn_Rs p jT bG lV) (hs : s < 4) (ht : t < 10001) (h : post (nI (qq_n p s t 0))) : wpY_at post ((nI (qp_m p)), (qp_SV p), (qp_RU p), (qp_AR p), (qp_VC p), (qp_VS p), (qp_VN p), jT, bG, lV, nW) (nI s) (nI t) := by
  unfold wpY_at
  dsimp only
  exact yb_st_t hs (br_f (by decide) (yb_tm_t ht (br_f (by decide) (yq_nu (kd := 0) ok Rs (by omega) (by omega) (by rw [qy_n_s ok hs]; exact h)))))
theorem yp_at_f (hn : ¬ (ix_v v1 4 ∧ ix_v v2 10001)) (h : post (-1)) : wpY_at post ((nI (qp_m p)), (qp_SV p), (qp_RU p), (qp_AR p), (qp_VC p), (qp_VS p), (qp_VN p), jT, bG, lV, nW) v1 v2 := by
  unfold wpY_at
  dsimp only
  by_cases a : ix_v v1 4
  · obtain ⟨s, hs, rfl⟩ := a
    exact yb_st_t hs (br_f (by decide) (yb_tm_f (fun z => hn ⟨⟨s, hs, rfl⟩, z⟩) (br_t rfl h)))
  · exact yb_st_f a (br_t rfl h)
theorem yp_waits_t {s t : Nat} (ok : qp_ok p) (Rs : qn_Rs p jT bG lV) (hs : s < 4) (ht : t < 10001) (h : post (nI (qq_n p s t 1))) : wpY_waits post ((nI (qp_m p)), (qp_SV p), (qp_RU p), (qp_AR p), (qp_VC p), (qp_VS p), (qp_VN p), jT, bG, lV, nW) (nI s) (nI t) := by
  unfold wpY_waits
  dsimp only
  exact yb_st_t hs (br_f (by decide) (yb_tm_t ht (br_f (by decide) (yq_nu (kd := 1) ok Rs (by omega) (by omega) (by rw [qy_n_s ok hs]; exact h)))))
theorem yp_waits_f (hn : ¬ (ix_v v1 4 ∧ ix_v v2 10001)) (h : post (-1)) : wpY_waits post ((nI (qp_m p)), (qp_SV p), (qp_RU p), (qp_AR p), (qp_VC p), (qp_VS p), (qp_VN p), jT, bG, lV, nW) v1 v2 := by
  unfold wpY_waits
  dsimp only
  by_cases a : ix_v v1 4
  · obtain ⟨s, hs, rfl⟩ := a
    exact yb_st_t hs (br_f (by decide) (yb_tm_f (fun z => hn ⟨⟨s, hs, rfl⟩, z⟩) (br_t rfl h)))
  · exact yb_st_f a (br_t rfl h)
theorem yp_area_t {s t : Nat} (ok : qp_ok p) (Rs : qn_Rs p jT bG lV) (hs : s < 4) (ht : t < 10001) (h : post (nI (qq_ar p s t))) : wpY_area post ((nI (qp_m p)), (qp_SV p), (qp_RU p), (qp_AR p), (qp_VC p), (qp_VS p), (qp_VN p), jT, bG, lV, nW) (nI s) (nI t) := by
  unfold wpY_area
  dsimp only
  exact yb_st_t hs (br_f (by decide) (yb_tm_t ht (br_f (by decide) ⟨t + 1, yq_ar ok Rs hs (by omega) h t (t + 1) 0 (by omega) (by omega)⟩)))
theorem yp_area_f (hn : ¬ (ix_v v1 4 ∧ ix_v v2 10001)) (h : post (-1)) : wpY_area post ((nI (qp_m p)), (qp_SV p), (qp_RU p), (qp_AR p), (qp_VC p), (qp_VS p), (qp_VN p), jT, bG, lV, nW) v1 v2 := by
  unfold wpY_area
  dsimp only
  by_cases a : ix_v v1 4
  · obtain ⟨s, hs, rfl⟩ := a
    exact yb_st_t hs (br_f (by decide) (yb_tm_f (fun z => hn ⟨⟨s, hs, rfl⟩, z⟩) (br_t rfl h)))
  · exact yb_st_f a (br_t rfl h)
theorem yp_stays_t {s : Nat} (ok : qp_ok p) (Rs : qn_Rs p jT bG lV) (hs : s < 4) (h : post (nI (qq_ar p s (qq_la p)))) : wpY_stays post ((nI (qp_m p)), (qp_SV p), (qp_RU p), (qp_AR p), (qp_VC p), (qp_VS p), (qp_VN p), jT, bG, lV, nW) (nI s) := by
  have hl := qq_la_le ok
  unfold wpY_stays
  dsimp only
  exact yp_area_t (t := 2000) ok Rs hs (by omega) (by rw [qq_ar_z ok (by omega)]; exact h)
theorem yp_stays_f (hn : ¬ ix_v v1 4) (h : post (-1)) : wpY_stays post ((nI (qp_m p)), (qp_SV p), (qp_RU p), (qp_AR p), (qp_VC p), (qp_VS p), (qp_VN p), jT, bG, lV, nW) v1 := by
  unfold wpY_stays
  dsimp only
  exact yp_area_f (fun z => hn z.1) h
theorem yp_busy (ok : qp_ok p) (Rs : qn_Rs p jT bG lV) (h : ∀ s, s < 4 → v1 = nI s → post (nI (qq_bs p s (qq_la p)))) (h0 : ¬ ix_v v1 4 → post (-1)) : wpY_busy post ((nI (qp_m p)), (qp_SV p), (qp_RU p), (qp_AR p), (qp_VC p), (qp_VS p), (qp_VN p), jT, bG, lV, nW) v1 :=
  ⟨qq_la p + 1, yq_bu ok Rs h h0 (qq_la p) (qq_la p + 1) 0 0 (by omega) (by omega) (fun _ _ _ => rfl)⟩
theorem yp_longest (ok : qp_ok p) (Rs : qn_Rs p jT bG lV) (h : ∀ s, s < 4 → v1 = nI s → post (nI (qq_lo p s (qq_la p)))) (h0 : ¬ ix_v v1 4 → post (-1)) : wpY_longest post ((nI (qp_m p)), (qp_SV p), (qp_RU p), (qp_AR p), (qp_VC p), (qp_VS p), (qp_VN p), jT, bG, lV, nW) v1 :=
  ⟨qq_la p + 1, yq_lo ok Rs h h0 (qq_la p) (qq_la p + 1) 0 0 (by omega) (by omega) (by omega) (fun _ _ _ => rfl)⟩
theorem yp_agree_t (h1 : ix_v v1 4) (h2 : ix_v v2 4) (h : post 1) : wpY_agree post ((nI (qp_m p)), (qp_SV p), (qp_RU p), (qp_AR p), (qp_VC p), (qp_VS p), (qp_VN p), jT, bG, lV, nW) v1 v2 := by
  obtain ⟨e, he, rfl⟩ := h1
  obtain ⟨f, hf, rfl⟩ := h2
  unfold wpY_agree
  dsimp only
  exact yb_en_t he (br_f (by decide) (yb_en_t hf (br_f (by decide) h)))
theorem yp_agree_f (hn : ¬ (ix_v v1 4 ∧ ix_v v2 4)) (h : post 0) : wpY_agree post ((nI (qp_m p)), (qp_SV p), (qp_RU p), (qp_AR p), (qp_VC p), (qp_VS p), (qp_VN p), jT, bG, lV, nW) v1 v2 := by
  unfold wpY_agree
  dsimp only
  by_cases a : ix_v v1 4
  · obtain ⟨e, he, rfl⟩ := a
    exact yb_en_t he (br_f (by decide) (yb_en_f (fun z => hn ⟨⟨e, he, rfl⟩, z⟩) (br_t rfl h)))
  · exact yb_en_f a (br_t rfl h)
end YU
end
section
def i_Rel (_ : Nat) (u : SX) (v : SY) : Prop := ∃ p : qp_T, qp_ok p ∧ xs_S p u ∧ ∃ jT bG lV nW : Nat → Int32, qn_Rs p jT bG lV ∧ v = ((nI (qp_m p)), (qp_SV p), (qp_RU p), (qp_AR p), (qp_VC p), (qp_VS p), (qp_VN p), jT, bG, lV, nW)
theorem i_up {k : Nat} {u : SX} {v : SY} (h : i_Rel k u v) : i_Rel (k + 4) u v := h
theorem iv_n {v : Int32} {a b : Nat} (h1 : ¬ v < nI a) (h2 : ¬ nI b < v) (ha : a < 2 ^ 31) (hb : b + 1 < 2 ^ 31) : ∃ n, a ≤ n ∧ n ≤ b ∧ v = nI n := by
  by_cases x : ix_v v (b + 1)
  · obtain ⟨n, hn, rfl⟩ := x
    refine ⟨n, ?_, by omega, rfl⟩
    rcases Nat.lt_or_ge n a with c | c
    · exact absurd (nI_lt c ha) h1
    · exact c
  · rcases ix_f1 hb x with c | ⟨c, d⟩
    · exact absurd (Int32.lt_of_lt_of_le c (nI_pos' ha)) h1
    · exact absurd d h2
theorem ir_i {k : Nat} {p : qp_T} {u : SX} {jT bG lV nW : Nat → Int32} (ok : qp_ok p) (xu : xs_S p u) (Rs : qn_Rs p jT bG lV) : i_Rel k u ((nI (qp_m p)), (qp_SV p), (qp_RU p), (qp_AR p), (qp_VC p), (qp_VS p), (qp_VN p), jT, bG, lV, nW) := ⟨p, ok, xu, jT, bG, lV, nW, Rs, rfl⟩
theorem ic_x {post : SX → Prop} (h : post (0, 0, 0, qp_SV qp_p0, qp_RU qp_p0, fun _ => 0, fun _ => 0, fun _ => 0, fun _ => 0, fun _ => 0, fun _ => 0, fun _ => 0, fun _ => 0, fun _ => 0, fun _ => 0, fun _ => 0, fun _ => 0, fun _ => 0, fun _ => 0, fun _ => 0)) :
    ∀ (d n i : Nat) (sc ru : Nat → Int32), i + d = 4 → d < n → (∀ j, sc j = if j < i then 1 else 0) → (∀ j, ru j = 0) → wX_init_155 post 0 0 0 n (nI i) sc ru (fun _ => 0) (fun _ => 0) (fun _ => 0) (fun _ => 0) (fun _ => 0) (fun _ => 0) (fun _ => 0) (fun _ => 0) (fun _ => 0) (fun _ => 0) (fun _ => 0) (fun _ => 0) (fun _ => 0) (fun _ => 0) (fun _ => 0) := by
  intro d
  induction d with
  | zero =>
    intro n i sc ru h1 h2 h3 h4
    obtain ⟨n, rfl⟩ : ∃ m, n = m + 1 := ⟨n - 1, by omega⟩
    rw [wX_init_155]
    have ei : i = 4 := by omega
    subst ei
    have e1 : sc = qp_SV qp_p0 := by
      funext j
      rw [h3 j]
      show _ = nI (if j < 4 then 1 else 0)
      by_cases g : j < 4
      · rw [if_pos g, if_pos g]; rfl
      · rw [if_neg g, if_neg g]; rfl
    have e2 : ru = qp_RU qp_p0 := by
      funext j
      rw [h4 j]; rfl
    subst e1 e2
    exact br_t (nI_le (a := 4) (b := 4) (by omega) (by omega)) h
  | succ d ih =>
    intro n i sc ru h1 h2 h3 h4
    obtain ⟨n, rfl⟩ : ∃ m, n = m + 1 := ⟨n - 1, by omega⟩
    rw [wX_init_155]
    have ei : (nI i).toNatClampNeg = i := nI_clamp (by omega)
    have wi : vp_in (nI i) 4 := vp_in_nI (by omega) (by omega)
    refine br_f (nI_ge (b := 4) (by omega) (by decide)) ⟨wi, nm_r (e' := upd sc i 1) (by rw [ei]) ⟨wi, nm_r (e' := upd ru i 0) (by rw [ei]) (nm_r (nI_1 i) (ih n (i + 1) _ _ (by omega) (by omega) (fun j => ?_) (fun j => ?_)))⟩⟩
    · by_cases f : j = i
      · rw [f, pk_us, if_pos (by omega)]
      · rw [pk_un f, h3 j]
        by_cases g : j < i
        · rw [if_pos g, if_pos (by omega)]
        · rw [if_neg g, if_neg (by omega)]
    · by_cases f : j = i
      · rw [f, pk_us]
      · rw [pk_un f]; exact h4 j
theorem ic_y {post : SY → Prop} (h : post (0, qp_SV qp_p0, fun _ => 0, fun _ => 0, fun _ => 0, fun _ => 0, fun _ => 0, fun _ => 0, fun _ => 0, fun _ => 0, fun _ => 0)) :
    ∀ (d n i : Nat) (sc : Nat → Int32), i + d = 4 → d < n → (∀ j, sc j = if j < i then 1 else 0) → wY_init_84 post 0 n (nI i) sc (fun _ => 0) (fun _ => 0) (fun _ => 0) (fun _ => 0) (fun _ => 0) (fun _ => 0) (fun _ => 0) (fun _ => 0) (fun _ => 0) := by
  intro d
  induction d with
  | zero =>
    intro n i sc h1 h2 h3
    obtain ⟨n, rfl⟩ : ∃ m, n = m + 1 := ⟨n - 1, by omega⟩
    rw [wY_init_84]
    have ei : i = 4 := by omega
    subst ei
    have e1 : sc = qp_SV qp_p0 := by
      funext j
      rw [h3 j]
      show _ = nI (if j < 4 then 1 else 0)
      by_cases g : j < 4
      · rw [if_pos g, if_pos g]; rfl
      · rw [if_neg g, if_neg g]; rfl
    subst e1
    exact br_t (nI_le (a := 4) (b := 4) (by omega) (by omega)) h
  | succ d ih =>
    intro n i sc h1 h2 h3
    obtain ⟨n, rfl⟩ : ∃ m, n = m + 1 := ⟨n - 1, by omega⟩
    rw [wY_init_84]
    have ei : (nI i).toNatClampNeg = i := nI_clamp (by omega)
    have wi : vp_in (nI i) 4 := vp_in_nI (by omega) (by omega)
    refine br_f (nI_ge (b := 4) (by omega) (by decide)) ⟨wi, nm_r (e' := upd sc i 1) (by rw [ei]) (nm_r (nI_1 i) (ih n (i + 1) _ (by omega) (by omega) (fun j => ?_)))⟩
    by_cases f : j = i
    · rw [f, pk_us, if_pos (by omega)]
    · rw [pk_un f, h3 j]
      by_cases g : j < i
      · rw [if_pos g, if_pos (by omega)]
      · rw [if_neg g, if_neg (by omega)]
theorem i_vc0 : wpX_init (fun u => wpY_init (fun v => i_Rel 0 u v)) :=
  ⟨5, ic_x ⟨5, ic_y ⟨qp_p0, qp_ok0, ⟨_, _, _, _, _, _, _, _, _, _, _, _, _, rfl⟩, _, _, _, _, fun c hc => absurd hc (Nat.not_lt_zero c), rfl⟩ 4 5 0 _ (by omega) (by omega) (fun j => by rw [if_neg (by omega)])⟩ 4 5 0 _ _ (by omega) (by omega) (fun j => by rw [if_neg (by omega)]) (fun _ => rfl)⟩
end
section
theorem i_vc_leaves {k : Nat} {u : SX} {v : SY} (I : i_Rel k u v) (hk : k + 4 ≤ 2048) (v1 : Int32) (v2 : Int32) : wpX_leaves (fun r u' => wpY_leaves (fun r' => r' = r ∧ i_Rel (k + 4) u' v) v v1 v2) u v1 v2 := by
  obtain ⟨p, ok, ⟨_, _, _, _, _, _, _, _, _, _, _, _, _, rfl⟩, jT, bG, lV, nW, Rs, rfl⟩ := I
  refine xp_leaves ok (fun e c u he hc e1 e2 xu => ?_) (fun hn => yp_leaves_f ok hn ⟨rfl, ir_i ok xs_i Rs⟩)
  subst e1 e2
  exact yp_leaves_t ok Rs he hc ⟨rfl, ir_i ok xu Rs⟩
theorem i_vc_joins {k : Nat} {u : SX} {v : SY} (I : i_Rel k u v) (hk : k + 4 ≤ 2048) (v1 : Int32) (v2 : Int32) : wpX_joins (fun r u' => wpY_joins (fun r' => r' = r ∧ i_Rel (k + 4) u' v) v v1 v2) u v1 v2 := by
  obtain ⟨p, ok, ⟨_, _, _, _, _, _, _, _, _, _, _, _, _, rfl⟩, jT, bG, lV, nW, Rs, rfl⟩ := I
  refine xp_joins ok (fun c j u hc hj e1 e2 xu => ?_) (fun hn => yp_joins_f ok hn ⟨rfl, ir_i ok xs_i Rs⟩)
  subst e1 e2
  exact yp_joins_t ok Rs hc hj ⟨rfl, ir_i ok xu Rs⟩
theorem i_vc_begins {k : Nat} {u : SX} {v : SY} (I : i_Rel k u v) (hk : k + 4 ≤ 2048) (v1 : Int32) (v2 : Int32) : wpX_begins (fun r u' => wpY_begins (fun r' => r' = r ∧ i_Rel (k + 4) u' v) v v1 v2) u v1 v2 := by
  obtain ⟨p, ok, ⟨_, _, _, _, _, _, _, _, _, _, _, _, _, rfl⟩, jT, bG, lV, nW, Rs, rfl⟩ := I
  refine xp_begins ok (fun c j u hc hj e1 e2 xu => ?_) (fun hn => yp_begins_f ok hn ⟨rfl, ir_i ok xs_i Rs⟩)
  subst e1 e2
  exact yp_begins_t ok Rs hc hj ⟨rfl, ir_i ok xu Rs⟩
theorem i_vc_at {k : Nat} {u : SX} {v : SY} (I : i_Rel k u v) (hk : k + 4 ≤ 2048) (v1 : Int32) (v2 : Int32) : wpX_at (fun r u' => wpY_at (fun r' => r' = r ∧ i_Rel (k + 4) u' v) v v1 v2) u v1 v2 := by
  obtain ⟨p, ok, ⟨_, _, _, _, _, _, _, _, _, _, _, _, _, rfl⟩, jT, bG, lV, nW, Rs, rfl⟩ := I
  refine xp_at ok (fun s t u hs ht e1 e2 xu => ?_) (fun hn => yp_at_f hn ⟨rfl, ir_i ok xs_i Rs⟩)
  subst e1 e2
  exact yp_at_t ok Rs hs ht ⟨rfl, ir_i ok xu Rs⟩
theorem i_vc_waits {k : Nat} {u : SX} {v : SY} (I : i_Rel k u v) (hk : k + 4 ≤ 2048) (v1 : Int32) (v2 : Int32) : wpX_waits (fun r u' => wpY_waits (fun r' => r' = r ∧ i_Rel (k + 4) u' v) v v1 v2) u v1 v2 := by
  obtain ⟨p, ok, ⟨_, _, _, _, _, _, _, _, _, _, _, _, _, rfl⟩, jT, bG, lV, nW, Rs, rfl⟩ := I
  refine xp_waits ok (fun s t u hs ht e1 e2 xu => ?_) (fun hn => yp_waits_f hn ⟨rfl, ir_i ok xs_i Rs⟩)
  subst e1 e2
  exact yp_waits_t ok Rs hs ht ⟨rfl, ir_i ok xu Rs⟩
theorem i_vc_area {k : Nat} {u : SX} {v : SY} (I : i_Rel k u v) (hk : k + 4 ≤ 2048) (v1 : Int32) (v2 : Int32) : wpX_area (fun r u' => wpY_area (fun r' => r' = r ∧ i_Rel (k + 4) u' v) v v1 v2) u v1 v2 := by
  obtain ⟨p, ok, ⟨_, _, _, _, _, _, _, _, _, _, _, _, _, rfl⟩, jT, bG, lV, nW, Rs, rfl⟩ := I
  refine xp_area ok (fun s t u hs ht e1 e2 xu => ?_) (fun hn => yp_area_f hn ⟨rfl, ir_i ok xs_i Rs⟩)
  subst e1 e2
  exact yp_area_t ok Rs hs ht ⟨rfl, ir_i ok xu Rs⟩
theorem i_vc_stays {k : Nat} {u : SX} {v : SY} (I : i_Rel k u v) (hk : k + 4 ≤ 2048) (v1 : Int32) : wpX_stays (fun r u' => wpY_stays (fun r' => r' = r ∧ i_Rel (k + 4) u' v) v v1) u v1 := by
  obtain ⟨p, ok, ⟨_, _, _, _, _, _, _, _, _, _, _, _, _, rfl⟩, jT, bG, lV, nW, Rs, rfl⟩ := I
  refine xp_stays ok (fun s u hs e1 xu => ?_) (fun hn => yp_stays_f hn ⟨rfl, ir_i ok xs_i Rs⟩)
  subst e1
  exact yp_stays_t ok Rs hs ⟨rfl, ir_i ok xu Rs⟩
theorem i_vc_busy {k : Nat} {u : SX} {v : SY} (I : i_Rel k u v) (hk : k + 4 ≤ 2048) (v1 : Int32) : wpX_busy (fun r u' => wpY_busy (fun r' => r' = r ∧ i_Rel (k + 4) u' v) v v1) u v1 := by
  obtain ⟨p, ok, ⟨_, _, _, _, _, _, _, _, _, _, _, _, _, rfl⟩, jT, bG, lV, nW, Rs, rfl⟩ := I
  refine xp_busy ok (fun s u hs e1 xu => ?_) (fun hn => ?_)
  · refine yp_busy ok Rs (fun s' hs' e2 => ?_) (fun hn => absurd ⟨s, hs, e1⟩ hn)
    have e : s' = s := (nI_eq (by omega) (by omega)).mp (e2.symm.trans e1)
    rw [e]
    exact ⟨rfl, ir_i ok xu Rs⟩
  · exact yp_busy ok Rs (fun s hs e => absurd ⟨s, hs, e⟩ hn) (fun _ => ⟨rfl, ir_i ok xs_i Rs⟩)
theorem i_vc_longest {k : Nat} {u : SX} {v : SY} (I : i_Rel k u v) (hk : k + 4 ≤ 2048) (v1 : Int32) : wpX_longest (fun r u' => wpY_longest (fun r' => r' = r ∧ i_Rel (k + 4) u' v) v v1) u v1 := by
  obtain ⟨p, ok, ⟨_, _, _, _, _, _, _, _, _, _, _, _, _, rfl⟩, jT, bG, lV, nW, Rs, rfl⟩ := I
  refine xp_longest ok (fun s u hs e1 xu => ?_) (fun hn => ?_)
  · refine yp_longest ok Rs (fun s' hs' e2 => ?_) (fun hn => absurd ⟨s, hs, e1⟩ hn)
    have e : s' = s := (nI_eq (by omega) (by omega)).mp (e2.symm.trans e1)
    rw [e]
    exact ⟨rfl, ir_i ok xu Rs⟩
  · exact yp_longest ok Rs (fun s hs e => absurd ⟨s, hs, e⟩ hn) (fun _ => ⟨rfl, ir_i ok xs_i Rs⟩)
theorem i_vc_last {k : Nat} {u : SX} {v : SY} (I : i_Rel k u v) (hk : k + 4 ≤ 2048) : wpX_last (fun r u' => wpY_last (fun r' => r' = r ∧ i_Rel (k + 4) u' v) v) u := by
  obtain ⟨p, ok, ⟨_, _, _, _, _, _, _, _, _, _, _, _, _, rfl⟩, jT, bG, lV, nW, Rs, rfl⟩ := I
  exact xp_last ok (fun u xu => yq_la ok Rs ⟨rfl, ir_i ok xu Rs⟩)
theorem i_vc_order {k : Nat} {u : SX} {v : SY} (I : i_Rel k u v) (hk : k + 4 ≤ 2048) (v1 : Int32) : wpX_order (fun r u' => wpY_order (fun r' => r' = r ∧ i_Rel (k + 4) u' v) v v1) u v1 := by
  obtain ⟨p, ok, ⟨_, _, _, _, _, _, _, _, _, _, _, _, _, rfl⟩, jT, bG, lV, nW, Rs, rfl⟩ := I
  exact xp_order ok (fun r u hr xu => yq_or ok Rs (fun q hq => ⟨qq_or_u ok hr hq, ir_i ok xu Rs⟩))
theorem i_vc_agree {k : Nat} {u : SX} {v : SY} (I : i_Rel k u v) (hk : k + 4 ≤ 2048) (v1 : Int32) (v2 : Int32) : wpX_agree (fun r u' => wpY_agree (fun r' => r' = r ∧ i_Rel (k + 4) u' v) v v1 v2) u v1 v2 := by
  obtain ⟨p, ok, ⟨_, _, _, _, _, _, _, _, _, _, _, _, _, rfl⟩, jT, bG, lV, nW, Rs, rfl⟩ := I
  exact xp_agree ok (fun u h1 h2 xu => yp_agree_t h1 h2 ⟨rfl, ir_i ok xu Rs⟩) (fun hn => yp_agree_f hn ⟨rfl, ir_i ok xs_i Rs⟩)
end
section
theorem iv_sv {p : qp_T} {s n r : Nat} (hs : s < 4) : upd (qp_SV p) (nI s).toNatClampNeg (nI n) = qp_SV (qp_wst p s n r) := by
  rw [nI_clamp (by omega)]; exact qp_upd (qp_sv p) s n
theorem iv_ru {p : qp_T} {s n r : Nat} (hs : s < 4) : upd (qp_RU p) (nI s).toNatClampNeg (nI r) = qp_RU (qp_wst p s n r) := by
  rw [nI_clamp (by omega)]; exact qp_upd (qp_ru p) s r
theorem i_vc_station {k : Nat} {u : SX} {v : SY} (I : i_Rel k u v) (hk : k + 4 ≤ 2048) (v1 : Int32) (v2 : Int32) (v3 : Int32) : wpX_station (fun r u' => wpY_station (fun r' v' => r' = r ∧ i_Rel (k + 4) u' v') v v1 v2 v3) u v1 v2 v3 := by
  obtain ⟨p, ok, ⟨_, _, _, _, _, _, _, _, _, _, _, _, _, rfl⟩, jT, bG, lV, nW, Rs, rfl⟩ := I
  unfold wpX_station wpY_station
  dsimp only
  by_cases a : ix_v v1 4
  · obtain ⟨s, hs, rfl⟩ := a
    have w : vp_in (nI s) 4 := vp_in_nI hs (by omega)
    refine xb_st_t hs (br_f (by decide) ?_)
    by_cases c1 : v2 < 1
    · exact br_t c1 (yb_st_t hs (br_f (by decide) (br_t c1 ⟨rfl, ir_i ok xs_i Rs⟩)))
    · by_cases c2 : 3 < v2
      · exact br_f c1 (br_t c2 (yb_st_t hs (br_f (by decide) (br_f c1 (br_t c2 ⟨rfl, ir_i ok xs_i Rs⟩)))))
      · by_cases c3 : v3 < 0
        · exact br_f c1 (br_f c2 (br_t c3 (yb_st_t hs (br_f (by decide) (br_f c1 (br_f c2 (br_t c3 ⟨rfl, ir_i ok xs_i Rs⟩)))))))
        · by_cases c4 : v3 < 3
          · obtain ⟨n, n1, n3, rfl⟩ := iv_n (a := 1) (b := 3) c1 c2 (by omega) (by omega)
            have c5 : v3 ≤ 2 := by
              rcases pk_ix v3 (n := 3) (by omega) with h | h | ⟨j, hj, rfl⟩
              · exact absurd h c3
              · exact absurd c4 (Int32.not_lt.mpr h)
              · exact nI_le (b := 2) (by omega) (by omega)
            obtain ⟨r, r2, rfl⟩ := nI_of2 (M := 2) (n := 2) rfl c3 c5
            have ok' := qp_ok_wst (s := s) ok n1 n3 r2
            refine br_f c1 (br_f c2 (br_f c3 (br_t c4 ⟨w, nm_r (iv_sv (n := n) (r := r) hs) ⟨w, nm_r (iv_ru (n := n) (r := r) hs) ?_⟩⟩)))
            refine yb_st_t hs (br_f (by decide) (br_f c1 (br_f c2 (br_f c3 (br_t c5 ⟨w, nm_r (iv_sv (n := n) (r := r) hs) ⟨w, nm_r (iv_ru (n := n) (r := r) hs) ?_⟩⟩)))))
            exact yl_pl (p := qp_wst p s n r) ok' (fun nw jt bg lv Rs' => ⟨rfl, ir_i ok' ⟨_, _, _, _, _, _, _, _, _, _, _, _, _, rfl⟩ Rs'⟩)
          · have c5 : ¬ v3 ≤ 2 := fun z => c4 (Int32.lt_of_le_of_lt z (by decide))
            exact br_f c1 (br_f c2 (br_f c3 (br_f c4 (yb_st_t hs (br_f (by decide) (br_f c1 (br_f c2 (br_f c3 (br_f c5 ⟨rfl, ir_i ok xs_i Rs⟩)))))))))
  · exact xb_st_f a (br_t rfl (yb_st_f a (br_t rfl ⟨rfl, ir_i ok xs_i Rs⟩)))
theorem iv_ar {p : qp_T} {t : Nat} (hm : qp_m p < 12) : upd (qp_AR p) (nI (qp_m p)).toNatClampNeg (nI t) = qp_AR (qp_war p t) := by
  rw [nI_clamp (by omega)]; exact qp_upd (qp_ar p) (qp_m p) t
theorem iv_vc {p : qp_T} {t : Nat} (hm : qp_m p < 12) : upd (qp_VC p) (nI (qp_m p)).toNatClampNeg 0 = qp_VC (qp_war p t) := by
  rw [nI_clamp (by omega)]; exact qp_upd (qp_vc p) (qp_m p) 0
theorem i_vc_arrive {k : Nat} {u : SX} {v : SY} (I : i_Rel k u v) (hk : k + 4 ≤ 2048) (v1 : Int32) : wpX_arrive (fun r u' => wpY_arrive (fun r' v' => r' = r ∧ i_Rel (k + 4) u' v') v v1) u v1 := by
  obtain ⟨p, ok, ⟨_, _, _, _, _, _, _, _, _, _, _, _, _, rfl⟩, jT, bG, lV, nW, Rs, rfl⟩ := I
  have hm := ok.1
  unfold wpX_arrive wpY_arrive
  dsimp only
  by_cases c1 : v1 < 0
  · exact br_t c1 (br_t c1 ⟨rfl, ir_i ok xs_i Rs⟩)
  · by_cases c2 : v1 ≤ 100
    · obtain ⟨t, ht, rfl⟩ := nI_of2 (M := 100) (n := 100) rfl c1 c2
      by_cases c3 : qp_m p = 12
      · have c4 : ¬ nI (qp_m p) < 12 := nI_nlt (b := 12) (by omega) (by omega)
        exact br_f c1 (br_t c2 (br_t (by rw [c3]; rfl) (br_f c1 (br_t c2 (br_f c4 ⟨rfl, ir_i ok xs_i Rs⟩)))))
      · have c4 : nI (qp_m p) < 12 := nI_lt (b := 12) (by omega) (by decide)
        have c5 : ¬ nI (qp_m p) = 12 := fun z => c3 ((nI_eq (b := 12) (by omega) (by decide)).mp z)
        have w : vp_in (nI (qp_m p)) 12 := vp_in_nI (by omega) (by omega)
        have ok' := qp_ok_war (t := t) ok (by omega) ht
        refine br_f c1 (br_t c2 (br_f c5 ⟨w, nm_r (iv_ar (t := t) (by omega)) ⟨w, nm_r (iv_vc (t := t) (by omega)) (nm_r (nI_1 _) ?_)⟩⟩))
        refine br_f c1 (br_t c2 (br_t c4 ⟨w, nm_r (iv_ar (t := t) (by omega)) ⟨w, nm_r (iv_vc (t := t) (by omega)) (nm_r (nI_1 _) ?_)⟩⟩))
        exact yl_pl (p := qp_war p t) ok' (fun nw jt bg lv Rs' => ⟨nI_pred (qp_m p), ir_i ok' ⟨_, _, _, _, _, _, _, _, _, _, _, _, _, rfl⟩ Rs'⟩)
    · exact br_f c1 (br_f c2 (br_f c1 (br_f c2 ⟨rfl, ir_i ok xs_i Rs⟩)))
theorem i_vc_drop {k : Nat} {u : SX} {v : SY} (I : i_Rel k u v) (hk : k + 4 ≤ 2048) : wpX_drop (fun r u' => wpY_drop (fun r' v' => r' = r ∧ i_Rel (k + 4) u' v') v) u := by
  obtain ⟨p, ok, ⟨_, _, _, _, _, _, _, _, _, _, _, _, _, rfl⟩, jT, bG, lV, nW, Rs, rfl⟩ := I
  have hm := ok.1
  unfold wpX_drop wpY_drop
  dsimp only
  by_cases c : qp_m p = 0
  · have c1 : nI (qp_m p) = 0 := by rw [c]; rfl
    exact br_t c1 (br_t c1 ⟨rfl, ir_i ok xs_i Rs⟩)
  · have c1 : ¬ nI (qp_m p) = 0 := nI_ne0 (by omega) (by omega)
    have e : nI (qp_m p) - 1 = nI (qp_m (qp_wdr p)) := by
      show nI (qp_m p) - 1 = nI (qp_m p - 1)
      obtain ⟨n, hn⟩ : ∃ n, qp_m p = n + 1 := ⟨qp_m p - 1, by omega⟩
      rw [hn]
      exact nI_pred n
    have ok' := qp_ok_wdr ok
    refine br_f c1 (nm_r e (br_f c1 (nm_r e ?_)))
    exact yl_pl (p := qp_wdr p) ok' (fun nw jt bg lv Rs' => ⟨rfl, ir_i ok' ⟨_, _, _, _, _, _, _, _, _, _, _, _, _, rfl⟩ Rs'⟩)
end
section
theorem i_vc_visit {k : Nat} {u : SX} {v : SY} (I : i_Rel k u v) (hk : k + 4 ≤ 2048) (v1 : Int32) (v2 : Int32) (v3 : Int32) : wpX_visit (fun r u' => wpY_visit (fun r' v' => r' = r ∧ i_Rel (k + 4) u' v') v v1 v2 v3) u v1 v2 v3 := by
  obtain ⟨p, ok, ⟨_, _, _, _, _, _, _, _, _, _, _, _, _, rfl⟩, jT, bG, lV, nW, Rs, rfl⟩ := I
  have hm := ok.1
  unfold wpX_visit wpY_visit
  dsimp only
  by_cases a : ix_v v1 (qp_m p)
  · obtain ⟨c, hc, rfl⟩ := a
    have hv := (ok.2.2 c hc).2.1
    have w : vp_in (nI c) 12 := vp_in_nI (by omega) (by omega)
    have ec : (nI c).toNatClampNeg = c := nI_clamp (by omega)
    refine xb_cu_t hm hc (br_f (by decide) ?_)
    by_cases b : ix_v v2 4
    · obtain ⟨s, hs, rfl⟩ := b
      refine xb_st_t hs (br_f (by decide) ?_)
      by_cases c1 : v3 < 1
      · exact br_t c1 (yb_cu_t hm hc (br_f (by decide) (yb_st_t hs (br_f (by decide) (br_t c1 ⟨rfl, ir_i ok xs_i Rs⟩)))))
      · by_cases c2 : v3 ≤ 30
        · obtain ⟨n, n1, n3, rfl⟩ := iv_n (a := 1) (b := 30) c1 (Int32.not_lt.mpr c2) (by omega) (by omega)
          rw [ec, qp_VCe]
          by_cases c3 : qp_vc p c = 4
          · have c4 : ¬ nI (qp_vc p c) < 4 := nI_nlt (b := 4) (by omega) (by omega)
            exact br_f c1 (br_t c2 ⟨w, br_t (by rw [c3]; rfl) (yb_cu_t hm hc (br_f (by decide) (yb_st_t hs (br_f (by decide) (br_f c1 (br_t c2 ⟨w, br_f c4 ⟨rfl, ir_i ok xs_i Rs⟩⟩))))))⟩)
          · have c4 : nI (qp_vc p c) < 4 := nI_lt (b := 4) (by omega) (by decide)
            have c5 : ¬ nI (qp_vc p c) = 4 := fun z => c3 ((nI_eq (b := 4) (by omega) (by decide)).mp z)
            have w4 : vp_in (nI (4 * c + qp_vc p c)) 48 := vp_in_nI (by omega) (by omega)
            have e4 : (nI (4 * c + qp_vc p c)).toNatClampNeg = 4 * c + qp_vc p c := nI_clamp (by omega)
            have ok' := qp_ok_wvi (s := s) (n := n) ok hc (by omega) hs n1 n3
            have es : upd (qp_VS p) (4 * c + qp_vc p c) (nI s) = qp_VS (qp_wvi p c s n) := qp_upd (qp_vs p) _ s
            have en : upd (qp_VN p) (4 * c + qp_vc p c) (nI n) = qp_VN (qp_wvi p c s n) := qp_upd (qp_vn p) _ n
            have ev : upd (qp_VC p) c (nI (qp_vc p c) + 1) = qp_VC (qp_wvi p c s n) := by rw [nI_1]; exact qp_upd (qp_vc p) c _
            have er : qp_VC (qp_wvi p c s n) c = nI (qp_vc p c + 1) := by
              show nI (qn_u (qp_vc p) c (qp_vc p c + 1) c) = _
              rw [qn_us]
            refine br_f c1 (br_t c2 ⟨w, br_f c5 ⟨w, xl_vi ⟨w4, nm_r (e' := qp_VS (qp_wvi p c s n)) (by rw [e4]; exact es) ⟨w4, nm_r (e' := qp_VN (qp_wvi p c s n)) (by rw [e4]; exact en) ⟨w, w, nm_r ev ⟨w, ?_⟩⟩⟩⟩⟩⟩)
            refine yb_cu_t hm hc (br_f (by decide) (yb_st_t hs (br_f (by decide) (br_f c1 (br_t c2 ⟨w, br_t c4 ⟨w, ?_⟩⟩)))))
            rw [yl_c4, e4]
            refine ⟨w4, nm_r es ⟨w, w4, nm_r en ⟨w, w, nm_r ev ?_⟩⟩⟩
            exact yl_pl (p := qp_wvi p c s n) ok' (fun nw jt bg lv Rs' => ⟨w, rfl, ir_i ok' ⟨_, _, _, _, _, _, _, _, _, _, _, _, _, rfl⟩ Rs'⟩)
        · exact br_f c1 (br_f c2 (yb_cu_t hm hc (br_f (by decide) (yb_st_t hs (br_f (by decide) (br_f c1 (br_f c2 ⟨rfl, ir_i ok xs_i Rs⟩)))))))
    · exact xb_st_f b (br_t rfl (yb_cu_t hm hc (br_f (by decide) (yb_st_f b (br_t rfl ⟨rfl, ir_i ok xs_i Rs⟩)))))
  · exact xb_cu_f hm a (br_t rfl (yb_cu_f hm a (br_t rfl ⟨rfl, ir_i ok xs_i Rs⟩)))
end
