theorem qs_b1 : ∀ i, i < 32 → bt 1 i = decide (i = 0) := by decide +kernel
theorem qs_t1 (y : Int32) : y &&& 1 = 1 ↔ bt y 0 = true := by
  constructor
  · intro h
    have e := b_and y 1 0
    rw [h, qs_b1 0 (by omega)] at e
    cases hb : bt y 0
    · rw [hb] at e; exact absurd e (by decide)
    · rfl
  · intro h
    refine b_ext fun i hi => ?_
    rw [b_and, qs_b1 i hi]
    by_cases c : i = 0
    · subst c; rw [h]; rfl
    · rw [decide_eq_false c, Bool.and_false]
theorem qs_test {x : Int32} {k : Nat} (hk : k < 32) : (x >>> (nI k &&& 31)) &&& 1 = 1 ↔ bt x k = true := by
  rw [qs_t1, b_sshr k hk x (by omega : 0 < 32), Nat.add_zero, if_pos hk]
theorem qs_one {k i : Nat} (hk : k < 32) (hi : i < 32) : bt ((1 : Int32) <<< (nI k &&& 31)) i = decide (i = k) := by
  rw [b_shl k hk 1 hi]
  by_cases c : k ≤ i
  · rw [decide_eq_true c, Bool.true_and, qs_b1 (i - k) (by omega)]
    exact decide_eq_decide.mpr (by omega)
  · rw [decide_eq_false c, Bool.false_and, decide_eq_false (by omega)]
theorem qs_set {x : Int32} {k i : Nat} (hk : k < 32) (hi : i < 32) : bt (x ||| ((1 : Int32) <<< (nI k &&& 31))) i = true ↔ (bt x i = true ∨ i = k) := by
  rw [b_or, qs_one hk hi, Bool.or_eq_true, decide_eq_true_eq]
theorem qs_clr {x : Int32} {k i : Nat} (hk : k < 32) (hi : i < 32) : bt (x &&& (((1 : Int32) <<< (nI k &&& 31)) ^^^ (-1))) i = true ↔ (bt x i = true ∧ i ≠ k) := by
  rw [b_and, b_xor, qs_one hk hi, b_m1 i hi, Bool.xor_true, Bool.and_eq_true, Bool.not_eq_true', decide_eq_false_iff_not]
theorem qs_nz {x : Int32} {k : Nat} (h : bt x k = true) : ¬ x = 0 := by
  intro z
  rw [z, b_0] at h
  exact absurd h (by decide)
def qs_Ca (cal : Nat → Int32) (P : Nat → Prop) : Prop := ∀ t, t < 1541 → ∀ k, k < 32 → (bt (cal t) k = true ↔ P (t * 32 + k))
theorem qs_Ca0 {P : Nat → Prop} {cal : Nat → Int32} (h0 : ∀ t, t < 1541 → cal t = 0) (h : ∀ e, ¬ P e) : qs_Ca cal P := by
  intro t ht k _
  rw [h0 t ht, b_0]
  exact ⟨fun z => absurd z (by decide), fun z => absurd z (h _)⟩
theorem qs_Ca_add {P : Nat → Prop} {cal : Nat → Int32} {t k : Nat} (h : qs_Ca cal P) (hk : k < 32) : qs_Ca (upd cal t (cal t ||| ((1 : Int32) <<< (nI k &&& 31)))) (fun x => P x ∨ x = t * 32 + k) := by
  intro r hr j hj
  unfold upd
  by_cases c : r = t
  · subst c
    rw [if_pos rfl, qs_set hk hj, h r hr j hj]
    constructor
    · rintro (z | z)
      · exact Or.inl z
      · subst z; exact Or.inr rfl
    · rintro (z | z)
      · exact Or.inl z
      · exact Or.inr (by omega)
  · rw [if_neg c, h r hr j hj]
    constructor
    · exact Or.inl
    · rintro (z | z)
      · exact z
      · exact absurd z (by omega)
theorem qs_Ca_rm {P : Nat → Prop} {cal : Nat → Int32} {t k : Nat} (h : qs_Ca cal P) (hk : k < 32) : qs_Ca (upd cal t (cal t &&& (((1 : Int32) <<< (nI k &&& 31)) ^^^ (-1)))) (fun x => P x ∧ x ≠ t * 32 + k) := by
  intro r hr j hj
  unfold upd
  by_cases c : r = t
  · subst c
    rw [if_pos rfl, qs_clr hk hj, h r hr j hj]
    constructor
    · rintro ⟨z, y⟩
      exact ⟨z, by omega⟩
    · rintro ⟨z, y⟩
      exact ⟨z, fun w => y (by rw [w])⟩
  · rw [if_neg c, h r hr j hj]
    constructor
    · exact fun z => ⟨z, by omega⟩
    · exact fun z => z.1
