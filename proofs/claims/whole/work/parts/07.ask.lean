def qq_va (p : qp_T) (i : Nat) : Prop := i / 4 < qp_m p ∧ i % 4 < qp_vc p (i / 4)
def qq_J (p : qp_T) (i : Nat) : Nat := qn_J (qn_R p) i
def qq_B (p : qp_T) (i : Nat) : Nat := qn_B (qn_R p) i
def qq_L (p : qp_T) (c : Nat) : Nat := qn_L (qn_R p) c
def qq_E (p : qp_T) (i : Nat) : Nat := qq_B p i + qp_vn p i
-- kind 0: is there, 1: waits, 2: is served
def qq_Do (p : qp_T) (s t kd i : Nat) : Prop := i / 4 < qp_m p ∧ i % 4 < qp_vc p (i / 4) ∧ qp_vs p i = s ∧ qq_J p i ≤ t ∧ t < qq_E p i ∧ (kd = 0 ∨ (kd = 1 ∧ t < qq_B p i) ∨ (kd = 2 ∧ qq_B p i ≤ t))
def qq_do (p : qp_T) (s t kd i : Nat) : Bool := decide (i / 4 < qp_m p ∧ i % 4 < qp_vc p (i / 4) ∧ qp_vs p i = s ∧ qq_J p i ≤ t ∧ t < qq_E p i ∧ (kd = 0 ∨ (kd = 1 ∧ t < qq_B p i) ∨ (kd = 2 ∧ qq_B p i ≤ t)))
theorem qq_do_iff {p : qp_T} {s t kd i : Nat} : qq_do p s t kd i = true ↔ qq_Do p s t kd i := by unfold qq_do qq_Do; exact decide_eq_true_iff
def qq_n (p : qp_T) (s t kd : Nat) : Nat := qs_cnt (qq_do p s t kd) 48
theorem qq_f {p : qp_T} (ok : qp_ok p) {i : Nat} (h : i / 4 < qp_m p) (hk : i % 4 < qp_vc p (i / 4)) : qq_J p i ≤ qq_B p i ∧ qq_E p i ≤ qq_L p (i / 4) ∧ qq_L p (i / 4) ≤ 1540 := by
  obtain ⟨h1, h2⟩ := qn_R_f ok h
  have h3 := h2 (i % 4) hk
  have e : 4 * (i / 4) + i % 4 = i := by omega
  rw [e] at h3
  exact ⟨h3.1, h3.2, h1⟩
def qq_mx (f : Nat → Nat) : Nat → Nat
  | 0 => 0
  | m + 1 => if qq_mx f m < f m then f m else qq_mx f m
theorem qq_mx_s (f : Nat → Nat) (m : Nat) : qq_mx f (m + 1) = if qq_mx f m < f m then f m else qq_mx f m := rfl
theorem qq_mx_ge {f : Nat → Nat} {c : Nat} : ∀ {m : Nat}, c < m → f c ≤ qq_mx f m
  | 0, h => absurd h (by omega)
  | m + 1, h => by
    rw [qq_mx_s]
    by_cases e : c = m
    · subst e; split <;> omega
    · have := qq_mx_ge (f := f) (c := c) (m := m) (by omega)
      split <;> omega
theorem qq_mx_le {f : Nat → Nat} {b : Nat} : ∀ {m : Nat}, (∀ c, c < m → f c ≤ b) → qq_mx f m ≤ b
  | 0, _ => Nat.zero_le _
  | m + 1, h => by
    rw [qq_mx_s]
    have h1 := qq_mx_le (f := f) (b := b) (m := m) (fun c hc => h c (by omega))
    have h2 := h m (by omega)
    split <;> omega
theorem qq_mx_z {f : Nat → Nat} {a : Nat} : ∀ {m : Nat}, a ≤ m → (∀ i, a ≤ i → i < m → f i = 0) → qq_mx f m = qq_mx f a
  | 0, h, _ => by
    have : a = 0 := by omega
    rw [this]
  | m + 1, h, hz => by
    by_cases e : a = m + 1
    · rw [e]
    · have h1 := qq_mx_z (f := f) (a := a) (m := m) (by omega) (fun i hi hm => hz i hi (by omega))
      rw [qq_mx_s, hz m (by omega) (by omega), if_neg (by omega), h1]
def qq_la (p : qp_T) : Nat := qq_mx (qq_L p) (qp_m p)
theorem qq_la_ge {p : qp_T} {c : Nat} (h : c < qp_m p) : qq_L p c ≤ qq_la p := qq_mx_ge h
theorem qq_la_le {p : qp_T} (ok : qp_ok p) : qq_la p ≤ 1540 := qq_mx_le (fun _ hc => (qn_R_f ok hc).1)
-- after the last one has left nobody is anywhere
theorem qq_n_z {p : qp_T} (ok : qp_ok p) {s t kd : Nat} (h : qq_la p ≤ t) : qq_n p s t kd = 0 := by
  have hz : ∀ i, 0 ≤ i → i < 48 → qq_do p s t kd i = false := by
    intro i _ _
    refine decide_eq_false (fun z => ?_)
    have h1 := qq_f ok z.1 z.2.1
    have h2 := qq_la_ge z.1
    have h3 := z.2.2.2.2.1
    omega
  exact qs_cnt_z (b := qq_do p s t kd) (Nat.zero_le 48) hz
theorem qq_n_add (p : qp_T) (s t : Nat) : qq_n p s t 0 = qq_n p s t 1 + qq_n p s t 2 := by
  refine qs_cnt_add (fun i _ => ?_)
  by_cases h0 : qq_Do p s t 0 i
  · rw [if_pos (qq_do_iff.mpr h0)]
    by_cases h1 : t < qq_B p i
    · have a1 : qq_Do p s t 1 i := ⟨h0.1, h0.2.1, h0.2.2.1, h0.2.2.2.1, h0.2.2.2.2.1, Or.inr (Or.inl ⟨rfl, h1⟩)⟩
      have a2 : ¬ qq_Do p s t 2 i := fun z => by have := z.2.2.2.2.2; omega
      rw [if_pos (qq_do_iff.mpr a1), if_neg (fun z => a2 (qq_do_iff.mp z))]
    · have a1 : ¬ qq_Do p s t 1 i := fun z => by have := z.2.2.2.2.2; omega
      have a2 : qq_Do p s t 2 i := ⟨h0.1, h0.2.1, h0.2.2.1, h0.2.2.2.1, h0.2.2.2.2.1, Or.inr (Or.inr ⟨rfl, by omega⟩)⟩
      rw [if_neg (fun z => a1 (qq_do_iff.mp z)), if_pos (qq_do_iff.mpr a2)]
  · have a1 : ¬ qq_Do p s t 1 i := fun z => h0 ⟨z.1, z.2.1, z.2.2.1, z.2.2.2.1, z.2.2.2.2.1, Or.inl rfl⟩
    have a2 : ¬ qq_Do p s t 2 i := fun z => h0 ⟨z.1, z.2.1, z.2.2.1, z.2.2.2.1, z.2.2.2.2.1, Or.inl rfl⟩
    rw [if_neg (fun z => h0 (qq_do_iff.mp z)), if_neg (fun z => a1 (qq_do_iff.mp z)), if_neg (fun z => a2 (qq_do_iff.mp z))]
-- a visit's stay at s before e
def qq_cl (p : qp_T) (s e i : Nat) : Nat := if i / 4 < qp_m p ∧ i % 4 < qp_vc p (i / 4) ∧ qp_vs p i = s ∧ qq_J p i < e then (if qq_E p i < e then qq_E p i else e) - qq_J p i else 0
theorem qq_cl_0 (p : qp_T) (s i : Nat) : qq_cl p s 0 i = 0 := by unfold qq_cl; rw [if_neg (fun z => by omega)]
theorem qq_cl_s {p : qp_T} (ok : qp_ok p) (s e i : Nat) : qq_cl p s (e + 1) i = qq_cl p s e i + (if qq_do p s e 0 i = true then 1 else 0) := by
  by_cases hv : i / 4 < qp_m p ∧ i % 4 < qp_vc p (i / 4) ∧ qp_vs p i = s
  · have hf := qq_f ok hv.1 hv.2.1
    have hJE : qq_J p i ≤ qq_E p i := by have := hf.1; unfold qq_E; omega
    by_cases a : qq_J p i ≤ e
    · have c1 : i / 4 < qp_m p ∧ i % 4 < qp_vc p (i / 4) ∧ qp_vs p i = s ∧ qq_J p i < e + 1 := ⟨hv.1, hv.2.1, hv.2.2, by omega⟩
      have g1 : qq_cl p s (e + 1) i = (if qq_E p i < e + 1 then qq_E p i else e + 1) - qq_J p i := by unfold qq_cl; rw [if_pos c1]
      have g2 : qq_cl p s e i = (if qq_E p i < e then qq_E p i else e) - qq_J p i := by
        unfold qq_cl
        by_cases b : qq_J p i < e
        · rw [if_pos ⟨hv.1, hv.2.1, hv.2.2, b⟩]
        · rw [if_neg (fun z => b z.2.2.2)]
          split <;> omega
      rw [g1, g2]
      by_cases b : e < qq_E p i
      · have d : qq_Do p s e 0 i := ⟨hv.1, hv.2.1, hv.2.2, a, b, Or.inl rfl⟩
        rw [if_pos (qq_do_iff.mpr d), if_neg (show ¬ qq_E p i < e by omega)]
        split <;> omega
      · have d : ¬ qq_Do p s e 0 i := fun z => b z.2.2.2.2.1
        rw [if_neg (fun z => d (qq_do_iff.mp z)), if_pos (show qq_E p i < e + 1 by omega)]
        split <;> omega
    · have d : ¬ qq_Do p s e 0 i := fun z => a z.2.2.2.1
      unfold qq_cl
      rw [if_neg (fun z => a (by have := z.2.2.2; omega)), if_neg (fun z => a (by have := z.2.2.2; omega)), if_neg (fun z => d (qq_do_iff.mp z))]
  · have d : ¬ qq_Do p s e 0 i := fun z => hv ⟨z.1, z.2.1, z.2.2.1⟩
    unfold qq_cl
    rw [if_neg (fun z => hv ⟨z.1, z.2.1, z.2.2.1⟩), if_neg (fun z => hv ⟨z.1, z.2.1, z.2.2.1⟩), if_neg (fun z => d (qq_do_iff.mp z))]
def qq_ar (p : qp_T) (s e : Nat) : Nat := qs_sum (fun t => qq_n p s t 0) e
theorem qq_ar_s (p : qp_T) (s e : Nat) : qq_ar p s (e + 1) = qq_ar p s e + qq_n p s e 0 := rfl
theorem qq_ar_cl {p : qp_T} (ok : qp_ok p) (s : Nat) : ∀ e, qs_sum (qq_cl p s e) 48 = qq_ar p s e
  | 0 => by
    have h := qs_sum_z (f := qq_cl p s 0) (a := 0) (m := 48) (Nat.zero_le _) (fun i _ _ => qq_cl_0 p s i)
    rw [h]; rfl
  | e + 1 => by
    rw [qq_ar_s, ← qq_ar_cl ok s e, qs_sum_add (f := qq_cl p s e) (g := fun i => if qq_do p s e 0 i = true then 1 else 0) (fun i _ => qq_cl_s ok s e i)]
    unfold qq_n
    rw [qs_cnt_sum]
theorem qq_ar_z {p : qp_T} (ok : qp_ok p) {s e : Nat} (h : qq_la p ≤ e) : qq_ar p s e = qq_ar p s (qq_la p) :=
  qs_sum_z h (fun _ hi _ => qq_n_z ok hi)
-- busy and longest
def qq_bs (p : qp_T) (s e : Nat) : Nat := qs_cnt (fun t => decide (0 < qq_n p s t 2)) e
theorem qq_bs_z {p : qp_T} (ok : qp_ok p) {s e : Nat} (h : qq_la p ≤ e) : qq_bs p s e = qq_bs p s (qq_la p) :=
  qs_cnt_z h (fun i hi _ => decide_eq_false (by rw [qq_n_z ok hi]; omega))
def qq_lo (p : qp_T) (s e : Nat) : Nat := qq_mx (fun t => qq_n p s t 1) e
theorem qq_lo_z {p : qp_T} (ok : qp_ok p) {s e : Nat} (h : qq_la p ≤ e) : qq_lo p s e = qq_lo p s (qq_la p) :=
  qq_mx_z h (fun _ hi _ => qq_n_z ok hi)
-- order: how many leave before c
def qq_bb (p : qp_T) (c b : Nat) : Bool := decide (qq_L p b < qq_L p c ∨ (qq_L p b = qq_L p c ∧ b < c))
def qq_be (p : qp_T) (c : Nat) : Nat := qs_cnt (qq_bb p c) (qp_m p)
theorem qq_cnt_all (m : Nat) : qs_cnt (fun _ => true) m = m := by
  induction m with
  | zero => rfl
  | succ m ih => rw [qs_cnt_t rfl, ih]
theorem qq_be_lt {p : qp_T} {c : Nat} (h : c < qp_m p) : qq_be p c < qp_m p := by
  have := qs_cnt_lt (b := qq_bb p c) (d := fun _ => true) (c := c) (m := qp_m p) (fun _ _ _ => rfl) h (decide_eq_false (by omega)) rfl
  rw [qq_cnt_all] at this
  exact this
theorem qq_be_l {p : qp_T} {c d : Nat} (hc : c < qp_m p) (h : qq_L p c < qq_L p d ∨ (qq_L p c = qq_L p d ∧ c < d)) : qq_be p c < qq_be p d := by
  refine qs_cnt_lt (c := c) (fun i _ hi => ?_) hc (decide_eq_false (by omega)) (decide_eq_true h)
  have := of_decide_eq_true hi
  exact decide_eq_true (by omega)
theorem qq_be_inj {p : qp_T} {c d : Nat} (hc : c < qp_m p) (hd : d < qp_m p) (h : qq_be p c = qq_be p d) : c = d := by
  by_cases e : c = d
  · exact e
  · exfalso
    by_cases l : qq_L p c < qq_L p d ∨ (qq_L p c = qq_L p d ∧ c < d)
    · have := qq_be_l hc l; omega
    · have := qq_be_l (p := p) (c := d) (d := c) hd (by omega); omega
-- by customer and visit
theorem qq_c_in {p : qp_T} {s t kd c : Nat} (hv : qp_vc p c ≤ 4) : qs_cnt (qq_do p s t kd) (4 * (c + 1)) = qs_cnt (qq_do p s t kd) (4 * c + qp_vc p c) := by
  refine qs_cnt_z (by omega) (fun i h1 h2 => decide_eq_false (fun z => ?_))
  have e : i / 4 = c := by omega
  have h := z.2.1
  rw [e] at h
  omega
theorem qq_c_out {p : qp_T} {s t kd : Nat} (hm : qp_m p ≤ 12) : qq_n p s t kd = qs_cnt (qq_do p s t kd) (4 * qp_m p) := by
  refine qs_cnt_z (by omega) (fun i h1 h2 => decide_eq_false (fun z => ?_))
  have h := z.1
  omega
theorem qq_s_in {p : qp_T} {s e c : Nat} (hv : qp_vc p c ≤ 4) : qs_sum (qq_cl p s e) (4 * (c + 1)) = qs_sum (qq_cl p s e) (4 * c + qp_vc p c) := by
  refine qs_sum_z (by omega) (fun i h1 h2 => ?_)
  unfold qq_cl
  rw [if_neg (fun z => ?_)]
  have e : i / 4 = c := by omega
  have h := z.2.1
  rw [e] at h
  omega
theorem qq_s_out {p : qp_T} {s e : Nat} (hm : qp_m p ≤ 12) : qs_sum (qq_cl p s e) 48 = qs_sum (qq_cl p s e) (4 * qp_m p) := by
  refine qs_sum_z (by omega) (fun i h1 h2 => ?_)
  unfold qq_cl
  rw [if_neg (fun z => ?_)]
  have h := z.1
  omega
theorem qq_do_v {p : qp_T} {s t kd c k : Nat} (hc : c < qp_m p) (hk : k < qp_vc p c) (hv : qp_vc p c ≤ 4) : qq_do p s t kd (4 * c + k) = true ↔ (qp_vs p (4 * c + k) = s ∧ qq_J p (4 * c + k) ≤ t ∧ t < qq_E p (4 * c + k) ∧ (kd = 0 ∨ (kd = 1 ∧ t < qq_B p (4 * c + k)) ∨ (kd = 2 ∧ qq_B p (4 * c + k) ≤ t))) := by
  rw [qq_do_iff]
  unfold qq_Do
  rw [qn_d4 (by omega), qn_m4 (by omega)]
  exact ⟨fun z => z.2.2, fun z => ⟨hc, hk, z⟩⟩
theorem qq_do_0 {p : qp_T} {s t c k : Nat} (hc : c < qp_m p) (hk : k < qp_vc p c) (hv : qp_vc p c ≤ 4) : qq_do p s t 0 (4 * c + k) = true ↔ (qp_vs p (4 * c + k) = s ∧ qq_J p (4 * c + k) ≤ t ∧ t < qq_E p (4 * c + k)) := by
  rw [qq_do_v hc hk hv]
  exact ⟨fun z => ⟨z.1, z.2.1, z.2.2.1⟩, fun z => ⟨z.1, z.2.1, z.2.2, Or.inl rfl⟩⟩
theorem qq_do_1 {p : qp_T} {s t c k : Nat} (hc : c < qp_m p) (hk : k < qp_vc p c) (hv : qp_vc p c ≤ 4) : qq_do p s t 1 (4 * c + k) = true ↔ (qp_vs p (4 * c + k) = s ∧ qq_J p (4 * c + k) ≤ t ∧ t < qq_B p (4 * c + k)) := by
  rw [qq_do_v hc hk hv]
  refine ⟨fun z => ⟨z.1, z.2.1, ?_⟩, fun z => ⟨z.1, z.2.1, ?_, Or.inr (Or.inl ⟨rfl, z.2.2⟩)⟩⟩
  · have := z.2.2.2; omega
  · have := z.2.2; unfold qq_E; omega
theorem qq_cl_v {p : qp_T} {s e c k : Nat} (hc : c < qp_m p) (hk : k < qp_vc p c) (hv : qp_vc p c ≤ 4) : qq_cl p s e (4 * c + k) = if qp_vs p (4 * c + k) = s ∧ qq_J p (4 * c + k) < e then (if qq_E p (4 * c + k) < e then qq_E p (4 * c + k) else e) - qq_J p (4 * c + k) else 0 := by
  unfold qq_cl
  rw [qn_d4 (by omega), qn_m4 (by omega)]
  by_cases h : qp_vs p (4 * c + k) = s ∧ qq_J p (4 * c + k) < e
  · rw [if_pos h, if_pos ⟨hc, hk, h⟩]
  · rw [if_neg h, if_neg (fun z => h z.2.2)]
theorem qq_n_lt {p : qp_T} {s t kd : Nat} : qq_n p s t kd ≤ 48 := qs_cnt_le _ _
