-- what the loops of the stores keep; A is the content with the hole at k filled by x
def qs_so (n k x : Nat) (ev : Nat → Int32) (P : Nat → Prop) (A : Nat → Nat) : Prop :=
  (∀ j, j ≤ n → j ≠ k → ev j = nI (A j)) ∧ A k = x ∧ qs_St A (n + 1) P ∧ k ≤ n ∧ ∀ y, P y → y < 49312
theorem qs_so_v {n k x : Nat} {ev : Nat → Int32} {P : Nat → Prop} {A : Nat → Nat} (h : qs_so n k x ev P A) {j : Nat} (hj : j ≤ n) (hk : j ≠ k) : ev j = nI (A j) ∧ A j < 49312 := ⟨h.1 j hj hk, h.2.2.2.2 _ (h.2.2.1.1 j (by omega))⟩
theorem qs_so_i {n k x : Nat} {ev : Nat → Int32} {P : Nat → Prop} {A : Nat → Nat} (h : qs_so n k x ev P A) {j : Nat} (hj : j ≤ n) (hk : j ≠ k) : qs_so n j x (upd ev k (nI (A j))) P (qs_sw A k j) := by
  obtain ⟨h1, h2, h3, h4, h5⟩ := h
  refine ⟨fun i hi hij => ?_, ?_, qs_swap h3 (by omega) (by omega), hj, h5⟩
  · by_cases e : i = k
    · subst e; rw [pk_us, qs_swl]
    · rw [pk_un e, qs_swn e hij]; exact h1 i hi e
  · rw [qs_swr]; exact h2
theorem qs_so_e {n k x : Nat} {ev : Nat → Int32} {P : Nat → Prop} {A : Nat → Nat} (h : qs_so n k x ev P A) : ∀ i, i < n + 1 → upd ev k (nI x) i = nI (A i) := by
  obtain ⟨h1, h2, h3, h4, h5⟩ := h
  intro i hi
  by_cases e : i = k
  · subst e; rw [pk_us, h2]
  · rw [pk_un e]; exact h1 i (by omega) e
theorem qs_so_0 {n x : Nat} {ev : Nat → Int32} {P : Nat → Prop} {A : Nat → Nat} (hA : ∀ i, i < n → ev i = nI (A i)) (hS : qs_St A n P) (hx : ¬ P x) (hb : ∀ y, P y → y < 49312) (hx2 : x < 49312) : qs_so n n x ev (fun y => P y ∨ y = x) (qs_w A n x) := by
  refine ⟨fun j hj hn => ?_, qs_ws A n x, qs_app hS hx, Nat.le_refl _, fun y hy => ?_⟩
  · rw [qs_wn hn]; exact hA j (by omega)
  · rcases hy with hy | hy
    · exact hb y hy
    · rw [hy]; exact hx2
-- engine 0: to the end
theorem qs_ad0 {n x : Nat} {ev cal : Nat → Int32} {P : Nat → Prop} (h : qx_St 0 n ev cal P) (hx : ¬ P x) (hx2 : x < 49312) : qx_St 0 (n + 1) (upd ev n (nI x)) cal (fun y => P y ∨ y = x) := by
  obtain ⟨h1, h2, h3⟩ := h
  obtain ⟨A, a1, a2, a3, a4⟩ := h1 (by omega)
  have s := qs_so_0 a1 a2 hx h3 hx2
  exact ⟨fun _ => ⟨_, qs_so_e s, s.2.2.1, fun z => absurd z (by omega), fun z => absurd z (by omega)⟩, fun z => absurd z (by omega), s.2.2.2.2⟩
-- engine 1
theorem qs_s1_s {n k x : Nat} {ev : Nat → Int32} {P : Nat → Prop} {A : Nat → Nat} (h : qs_so n (k + 1) x ev P A) (hf : qs_fallx A (n + 1) (k + 1)) (hl : A k < x) : qs_fallx (qs_sw A (k + 1) k) (n + 1) k := by
  have h2 := h.2.1
  have h4 := h.2.2.2.1
  exact qs_falls hf (by omega) (by rw [h2]; exact hl)
theorem qs_s1_e {n k x : Nat} {ev cal : Nat → Int32} {P : Nat → Prop} {A : Nat → Nat} (h : qs_so n k x ev P A) (hf : qs_fallx A (n + 1) k) (hl : ∀ i, i + 1 = k → ¬ A i < x) : qx_St 1 (n + 1) (upd ev k (nI x)) cal P := by
  refine ⟨fun _ => ⟨A, qs_so_e h, h.2.2.1, fun _ => qs_falle hf (fun i hi => ?_), fun z => absurd z (by omega)⟩, fun z => absurd z (by omega), h.2.2.2.2⟩
  have h1 := hl i hi
  have h2 := h.2.1
  have h4 := h.2.2.2.1
  have h3 := h.2.2.1.2.2 i k (by omega) (by omega)
  omega
-- engine 2, up
theorem qs_s2_s {n k x : Nat} {ev : Nat → Int32} {P : Nat → Prop} {A : Nat → Nat} (h : qs_so n k x ev P A) (hf : qs_up A (n + 1) k) (h0 : 0 < k) (hl : ¬ A ((k - 1) / 2) < x) : qs_up (qs_sw A k ((k - 1) / 2)) (n + 1) ((k - 1) / 2) := by
  have h2 := h.2.1
  have h4 := h.2.2.2.1
  exact qs_ups hf h0 (by omega) (by rw [h2]; omega)
theorem qs_s2_e {n k x : Nat} {ev cal : Nat → Int32} {P : Nat → Prop} {A : Nat → Nat} (h : qs_so n k x ev P A) (hf : qs_up A (n + 1) k) (hl : 0 < k → A ((k - 1) / 2) < x) : qx_St 2 (n + 1) (upd ev k (nI x)) cal P := by
  refine ⟨fun _ => ⟨A, qs_so_e h, h.2.2.1, fun z => absurd z (by omega), fun _ => qs_upe hf (fun h0 => ?_)⟩, fun z => absurd z (by omega), h.2.2.2.2⟩
  have h1 := hl h0
  have h2 := h.2.1
  omega
-- engine 2, down: l slots are left
def qs_hd (l k x : Nat) (ev : Nat → Int32) (P : Nat → Prop) (A : Nat → Nat) : Prop :=
  (∀ j, j < l → j ≠ k → ev j = nI (A j)) ∧ (k < l → A k = x) ∧ qs_St A l P ∧ qs_dn A l k ∧ (k < l ∨ (l = 0 ∧ k = 0)) ∧ ∀ y, P y → y < 49312
theorem qs_hd_v {l k x : Nat} {ev : Nat → Int32} {P : Nat → Prop} {A : Nat → Nat} (h : qs_hd l k x ev P A) {j : Nat} (hj : j < l) (hk : j ≠ k) : ev j = nI (A j) ∧ A j < 49312 := ⟨h.1 j hj hk, h.2.2.2.2.2 _ (h.2.2.1.1 j hj)⟩
theorem qs_hd_0 {n : Nat} {ev : Nat → Int32} {P : Nat → Prop} {A : Nat → Nat} (hA : ∀ i, i < n + 1 → ev i = nI (A i)) (hS : qs_St A (n + 1) P) (hh : qs_hp A (n + 1)) (hb : ∀ y, P y → y < 49312) : qs_hd n 0 (A n) ev (fun y => P y ∧ y ≠ A 0) (qs_w A 0 (A n)) := by
  refine ⟨fun j hj h0 => ?_, fun _ => qs_ws _ _ _, qs_rm hS (Nat.zero_le _), qs_dn0 hh, by omega, fun y hy => hb y hy.1⟩
  rw [qs_wn h0]
  exact hA j (by omega)
theorem qs_hd_s {l k x c : Nat} {ev : Nat → Int32} {P : Nat → Prop} {A : Nat → Nat} (h : qs_hd l k x ev P A) (hc0 : 0 < c) (hc : c < l) (hp : (c - 1) / 2 = k) (hl : A c ≤ x) (hm : ∀ i, 0 < i → i < l → (i - 1) / 2 = k → A c ≤ A i) : qs_hd l c x (upd ev k (nI (A c))) P (qs_sw A k c) := by
  obtain ⟨h1, h2, h3, h4, h5, h6⟩ := h
  have hk : k < l := by omega
  have hx := h2 hk
  refine ⟨fun i hi hic => ?_, fun _ => ?_, qs_swap h3 hk hc, qs_dns h4 hc0 hc hp (by omega) hm, Or.inl hc, h6⟩
  · by_cases e : i = k
    · subst e; rw [pk_us, qs_swl]
    · rw [pk_un e, qs_swn e hic]; exact h1 i hi e
  · rw [qs_swr]; exact hx
theorem qs_hd_e {l k x : Nat} {ev cal : Nat → Int32} {P : Nat → Prop} {A : Nat → Nat} (h : qs_hd l k x ev P A) (hm : ∀ i, 0 < i → i < l → (i - 1) / 2 = k → x ≤ A i) : qx_St 2 l (upd ev k (nI x)) cal P := by
  obtain ⟨h1, h2, h3, h4, h5, h6⟩ := h
  refine ⟨fun _ => ⟨A, fun i hi => ?_, h3, fun z => absurd z (by omega), fun _ => qs_dne h4 (fun i i0 hi hp => ?_)⟩, fun z => absurd z (by omega), h6⟩
  · by_cases e : i = k
    · subst e; rw [pk_us, h2 hi]
    · rw [pk_un e]; exact h1 i hi e
  · have hx := h2 (by omega)
    have := hm i i0 hi hp
    omega
-- engine 3
theorem qs_Ca_z {P : Nat → Prop} {cal : Nat → Int32} {t : Nat} (h : qs_Ca cal P) (ht : t < 1541) (hn : ∀ k, k < 32 → ¬ P (t * 32 + k)) : cal t = 0 := by
  refine b_ext (fun i hi => ?_)
  rw [b_0]
  exact Bool.eq_false_iff.mpr (fun z => hn i hi ((h t ht i hi).mp z))
theorem qs_Ca_nz {P : Nat → Prop} {cal : Nat → Int32} {t k : Nat} (h : qs_Ca cal P) (ht : t < 1541) (hk : k < 32) (hP : P (t * 32 + k)) : ¬ cal t = 0 := qs_nz ((h t ht k hk).mpr hP)
theorem qs_ad3 {n x : Nat} {ev cal : Nat → Int32} {P : Nat → Prop} (h : qx_St 3 n ev cal P) (hx2 : x < 49312) : qx_St 3 (n + 1) ev (upd cal (x / 32) (cal (x / 32) ||| ((1 : Int32) <<< (nI (x % 32) &&& 31)))) (fun y => P y ∨ y = x) := by
  obtain ⟨h1, h2, h3⟩ := h
  have e : x = x / 32 * 32 + x % 32 := by omega
  refine ⟨fun z => absurd z (by omega), fun _ => ?_, fun y hy => ?_⟩
  · have h4 := qs_Ca_add (t := x / 32) (k := x % 32) (h2 (by omega)) (by omega)
    rw [← e] at h4
    exact h4
  · rcases hy with hy | hy
    · exact h3 y hy
    · rw [hy]; exact hx2
theorem qs_rm3 {n x : Nat} {ev cal : Nat → Int32} {P : Nat → Prop} (h : qx_St 3 (n + 1) ev cal P) : qx_St 3 n ev (upd cal (x / 32) (cal (x / 32) &&& (((1 : Int32) <<< (nI (x % 32) &&& 31)) ^^^ (-1)))) (fun y => P y ∧ y ≠ x) := by
  obtain ⟨h1, h2, h3⟩ := h
  have e : x = x / 32 * 32 + x % 32 := by omega
  refine ⟨fun z => absurd z (by omega), fun _ => ?_, fun y hy => h3 y hy.1⟩
  have h4 := qs_Ca_rm (t := x / 32) (k := x % 32) (h2 (by omega)) (by omega)
  rw [← e] at h4
  exact h4
-- the first of engines 0, 1, 2
theorem qs_fst {n x pl : Nat} {P : Nat → Prop} {A : Nat → Nat} (hS : qs_St A n P) (hp : pl < n) (hl : ∀ i, i < n → A pl ≤ A i) (hx : P x) (hm : ∀ y, P y → x ≤ y) : A pl = x := by
  have h1 := hm _ (hS.1 pl hp)
  obtain ⟨i, hi, e⟩ := hS.2.1 x hx
  have h2 := hl i hi
  omega
theorem qs_rm0 {n pl x : Nat} {ev cal : Nat → Int32} {P : Nat → Prop} {A : Nat → Nat} (hA : ∀ i, i < n + 1 → ev i = nI (A i)) (hS : qs_St A (n + 1) P) (hb : ∀ y, P y → y < 49312) (hp : pl ≤ n) (hx : A pl = x) : qx_St 0 n (upd ev pl (ev n)) cal (fun y => P y ∧ y ≠ x) := by
  have h := qs_rm hS hp
  rw [hx] at h
  refine ⟨fun _ => ⟨_, fun i hi => ?_, h, fun z => absurd z (by omega), fun z => absurd z (by omega)⟩, fun z => absurd z (by omega), fun y hy => hb y hy.1⟩
  by_cases e : i = pl
  · subst e; rw [pk_us, qs_ws]; exact hA n (by omega)
  · rw [pk_un e, qs_wn e]; exact hA i (by omega)
-- engine 1: the last slot is taken off
theorem qs_rm1 {n x : Nat} {ev cal : Nat → Int32} {P : Nat → Prop} {A : Nat → Nat} (hA : ∀ i, i < n + 1 → ev i = nI (A i)) (hS : qs_St A (n + 1) P) (hf : qs_fall A (n + 1)) (hb : ∀ y, P y → y < 49312) (hx : A n = x) : qx_St 1 n ev cal (fun y => P y ∧ y ≠ x) := by
  refine ⟨fun _ => ⟨A, fun i hi => hA i (by omega), ⟨fun i hi => ⟨hS.1 i (by omega), fun z => ?_⟩, fun y hy => ?_, fun i j hij hj => hS.2.2 i j hij (by omega)⟩, fun _ i j hij hj => hf i j hij (by omega), fun z => absurd z (by omega)⟩, fun z => absurd z (by omega), fun y hy => hb y hy.1⟩
  · exact hS.2.2 i n hi (by omega) (by rw [z, hx])
  · obtain ⟨i, hi, e⟩ := hS.2.1 y hy.1
    have hn : i ≠ n := fun z => hy.2 (by rw [← e, z, hx])
    exact ⟨i, by omega, e⟩
