theorem xl_m1 (x : Int32) : x + (-1) = x - 1 := (Int32.sub_eq_add_neg x 1).symm
theorem xl_n1 : nI 0 - 1 < 0 := by decide
section XS
variable {p : qp_T} {mm nw nc : Int32} {sC rU aR vC vS vN jT bG lV oJ oB oL cV wA fR eV cA : Nat → Int32}
theorem xl_pl_l {post : Int32 → Prop} {N : Nat} {A : Nat → Nat} (hN : N ≤ 12) (hA : ∀ i, i < N → eV i = nI (A i)) (hb : ∀ i, i < N → A i < 49312) (h : ∀ q, q < N → (∀ i, i < N → A q ≤ A i) → post (nI q)) :
    ∀ (d n i q : Nat), i + d = N → d < n → q < i → (∀ j, j < i → A q ≤ A j) → wX_placeOfLeast_4 post mm nw (nI N) sC rU aR vC vS vN jT bG lV oJ oB oL cV wA fR eV cA n (nI q) (nI i) := by
  intro d
  induction d with
  | zero =>
    intro n i q h1 h2 h3 h4
    obtain ⟨n, rfl⟩ : ∃ m, n = m + 1 := ⟨n - 1, by omega⟩
    rw [wX_placeOfLeast_4]
    exact br_t (nI_le (by omega) (by omega)) (h q (by omega) (fun j hj => h4 j (by omega)))
  | succ d ih =>
    intro n i q h1 h2 h3 h4
    obtain ⟨n, rfl⟩ : ∃ m, n = m + 1 := ⟨n - 1, by omega⟩
    rw [wX_placeOfLeast_4]
    have ei : (nI i).toNatClampNeg = i := nI_clamp (by omega)
    have eq : (nI q).toNatClampNeg = q := nI_clamp (by omega)
    have wi : vp_in (nI i) 12 := vp_in_nI (by omega) (by omega)
    have wq : vp_in (nI q) 12 := vp_in_nI (by omega) (by omega)
    have gi := hA i (by omega)
    have gq := hA q (by omega)
    have bi := hb i (by omega)
    have bq := hb q (by omega)
    refine br_f (nI_ge (by omega) (by omega)) ⟨wi, wq, ?_⟩
    by_cases c : A i < A q
    · refine br_f (by rw [ei, eq, gi, gq]; exact nI_ge c (by omega)) (nm_r (nI_1 i) (ih n (i + 1) i (by omega) (by omega) (by omega) (fun j hj => ?_)))
      by_cases e : j = i
      · rw [e]; exact Nat.le_refl _
      · have := h4 j (by omega); omega
    · refine br_t (by rw [ei, eq, gi, gq]; exact nI_le (by omega) (by omega)) (nm_r (nI_1 i) (ih n (i + 1) q (by omega) (by omega) (by omega) (fun j hj => ?_)))
      by_cases e : j = i
      · rw [e]; omega
      · exact h4 j (by omega)
theorem xl_pl {post : Int32 → Prop} {N : Nat} {A : Nat → Nat} (h0 : 0 < N) (hN : N ≤ 12) (hA : ∀ i, i < N → eV i = nI (A i)) (hb : ∀ i, i < N → A i < 49312) (h : ∀ q, q < N → (∀ i, i < N → A q ≤ A i) → post (nI q)) : wpX_placeOfLeast post (mm, nw, nI N, sC, rU, aR, vC, vS, vN, jT, bG, lV, oJ, oB, oL, cV, wA, fR, eV, cA) := by
  refine ⟨N, xl_pl_l hN hA hb h (N - 1) N 1 0 (by omega) (by omega) (by omega) (fun j hj => ?_)⟩
  have e : j = 0 := by omega
  rw [e]; exact Nat.le_refl _
-- engine 1
theorem xl_so_x {post : SX → Prop} {N x k : Nat} {P : Nat → Prop} {ev : Nat → Int32} {A : Nat → Nat} (hN : N < 12) (h : ∀ ev', (∀ cal, qx_St 1 (N + 1) ev' cal P) → post (mm, nw, nI N, sC, rU, aR, vC, vS, vN, jT, bG, lV, oJ, oB, oL, cV, wA, fR, ev', cA)) (s : qs_so N k x ev P A) (f : qs_fallx A (N + 1) k) (hl : ∀ i, i + 1 = k → ¬ A i < x) : vp_in (nI k) 12 ∧ ∀ a : Nat → Int32, a = upd ev (nI k).toNatClampNeg (nI x) → post (mm, nw, nI N, sC, rU, aR, vC, vS, vN, jT, bG, lV, oJ, oB, oL, cV, wA, fR, a, cA) := by
  have h4 := s.2.2.2.1
  have ek : (nI k).toNatClampNeg = k := nI_clamp (by omega)
  exact ⟨vp_in_nI (by omega) (by omega), nm_r (e' := upd ev k (nI x)) (by rw [ek]) (h _ (fun cal => qs_s1_e s f hl))⟩
theorem xl_so_l {post : SX → Prop} {N x : Nat} {P : Nat → Prop} (hN : N < 12) (hx : x < 49312) (h : ∀ ev', (∀ cal, qx_St 1 (N + 1) ev' cal P) → post (mm, nw, nI N, sC, rU, aR, vC, vS, vN, jT, bG, lV, oJ, oB, oL, cV, wA, fR, ev', cA)) :
    ∀ (k n : Nat) (ev : Nat → Int32) (A : Nat → Nat), k < n → qs_so N k x ev P A → qs_fallx A (N + 1) k → wX_addToSortedList_12 post (nI x) mm nw (nI N) n (nI k) (nI k - 1) sC rU aR vC vS vN jT bG lV oJ oB oL cV wA fR ev cA := by
  intro k
  induction k with
  | zero =>
    intro n ev A h1 s f
    obtain ⟨n, rfl⟩ : ∃ m, n = m + 1 := ⟨n - 1, by omega⟩
    rw [wX_addToSortedList_12]
    exact br_t xl_n1 (xl_so_x hN h s f (fun i hi => by omega))
  | succ k ih =>
    intro n ev A h1 s f
    obtain ⟨n, rfl⟩ : ∃ m, n = m + 1 := ⟨n - 1, by omega⟩
    rw [wX_addToSortedList_12, nI_pred]
    have h4 := s.2.2.2.1
    have ek : (nI k).toNatClampNeg = k := nI_clamp (by omega)
    have ek1 : (nI k + 1).toNatClampNeg = k + 1 := by rw [nI_1]; exact nI_clamp (by omega)
    have wk : vp_in (nI k) 12 := vp_in_nI (by omega) (by omega)
    have wk1 : vp_in (nI k + 1) 12 := by rw [nI_1]; exact vp_in_nI (by omega) (by omega)
    obtain ⟨gk, bk⟩ := qs_so_v s (j := k) (by omega) (by omega)
    refine br_f (nI_pos (by omega)) ⟨wk, ?_⟩
    by_cases c : A k < x
    · refine br_f (by rw [ek, gk]; exact nI_ge c (by omega)) ⟨wk, wk1, nm_r (e' := upd ev (k + 1) (nI (A k))) (by rw [ek, ek1, gk]) (nm_r (xl_m1 (nI k)) (ih n _ _ (by omega) (qs_so_i s (by omega) (by omega)) (qs_s1_s s f c)))⟩
    · exact br_t (by rw [ek, gk]; exact nI_le (by omega) (by omega)) (xl_so_x hN h s f (fun i hi => by rw [show i = k from by omega]; exact c))
theorem xl_so {post : SX → Prop} {N x : Nat} {P : Nat → Prop} (hN : N < 12) (hx : x < 49312) (hP : ¬ P x) (hS : qx_St 1 N eV cA P) (h : ∀ ev', (∀ cal, qx_St 1 (N + 1) ev' cal (fun y => P y ∨ y = x)) → post (mm, nw, nI N, sC, rU, aR, vC, vS, vN, jT, bG, lV, oJ, oB, oL, cV, wA, fR, ev', cA)) : wpX_addToSortedList post (mm, nw, nI N, sC, rU, aR, vC, vS, vN, jT, bG, lV, oJ, oB, oL, cV, wA, fR, eV, cA) (nI x) := by
  obtain ⟨A, a1, a2, a3, a4⟩ := hS.1 (by omega)
  exact nm_e ⟨N + 1, xl_so_l hN hx h N (N + 1) _ _ (by omega) (qs_so_0 a1 a2 hP hS.2.2 hx) (qs_fall0 (a3 rfl))⟩
-- engine 2, up
theorem xl_hu_x {post : SX → Prop} {N x k : Nat} {P : Nat → Prop} {ev : Nat → Int32} {A : Nat → Nat} (hN : N < 12) (h : ∀ ev', (∀ cal, qx_St 2 (N + 1) ev' cal P) → post (mm, nw, nI N, sC, rU, aR, vC, vS, vN, jT, bG, lV, oJ, oB, oL, cV, wA, fR, ev', cA)) (s : qs_so N k x ev P A) (f : qs_up A (N + 1) k) (hl : 0 < k → A ((k - 1) / 2) < x) : vp_in (nI k) 12 ∧ ∀ a : Nat → Int32, a = upd ev (nI k).toNatClampNeg (nI x) → post (mm, nw, nI N, sC, rU, aR, vC, vS, vN, jT, bG, lV, oJ, oB, oL, cV, wA, fR, a, cA) := by
  have h4 := s.2.2.2.1
  have ek : (nI k).toNatClampNeg = k := nI_clamp (by omega)
  exact ⟨vp_in_nI (by omega) (by omega), nm_r (e' := upd ev k (nI x)) (by rw [ek]) (h _ (fun cal => qs_s2_e s f hl))⟩
theorem xl_hu_l {post : SX → Prop} {N x : Nat} {P : Nat → Prop} (hN : N < 12) (hx : x < 49312) (h : ∀ ev', (∀ cal, qx_St 2 (N + 1) ev' cal P) → post (mm, nw, nI N, sC, rU, aR, vC, vS, vN, jT, bG, lV, oJ, oB, oL, cV, wA, fR, ev', cA)) :
    ∀ (d n i k : Nat) (ev : Nat → Int32) (A : Nat → Nat), i + d = 12 → d < n → (k = 0 ∨ k + i ≤ N) → qs_so N k x ev P A → qs_up A (N + 1) k → wX_addToHeap_7 post (nI x) mm nw (nI N) n (nI k) (nI i) sC rU aR vC vS vN jT bG lV oJ oB oL cV wA fR ev cA := by
  intro d
  induction d with
  | zero =>
    intro n i k ev A h1 h2 h3 s f
    obtain ⟨n, rfl⟩ : ∃ m, n = m + 1 := ⟨n - 1, by omega⟩
    rw [wX_addToHeap_7]
    exact br_t (nI_le (a := 12) (by omega) (by omega)) (xl_hu_x hN h s f (fun z => by omega))
  | succ d ih =>
    intro n i k ev A h1 h2 h3 s f
    obtain ⟨n, rfl⟩ : ∃ m, n = m + 1 := ⟨n - 1, by omega⟩
    rw [wX_addToHeap_7]
    refine br_f (nI_ge (b := 12) (by omega) (by decide)) ?_
    by_cases k0 : k = 0
    · subst k0
      exact br_t (nI_le (a := 0) (b := 0) (by omega) (by omega)) (xl_hu_x hN h s f (fun z => by omega))
    · obtain ⟨k, rfl⟩ : ∃ m, k = m + 1 := ⟨k - 1, by omega⟩
      have h4 := s.2.2.2.1
      have ed : (nI (k + 1) - 1) / 2 = nI (k / 2) := by rw [nI_pred]; exact pk_div (d := 2) (by omega) (by omega) (by omega)
      have eq : (nI (k / 2)).toNatClampNeg = k / 2 := nI_clamp (by omega)
      have ek : (nI (k + 1)).toNatClampNeg = k + 1 := nI_clamp (by omega)
      have wq : vp_in (nI (k / 2)) 12 := vp_in_nI (by omega) (by omega)
      have wk : vp_in (nI (k + 1)) 12 := vp_in_nI (by omega) (by omega)
      have ep : (k + 1 - 1) / 2 = k / 2 := rfl
      obtain ⟨gq, bq⟩ := qs_so_v s (j := k / 2) (by omega) (by omega)
      refine br_f (nI_nle (by omega) (by omega)) ⟨by decide, nm_r ed ⟨wq, ?_⟩⟩
      by_cases c : A (k / 2) < x
      · exact br_f (by rw [eq, gq]; exact nI_ge c (by omega)) (xl_hu_x hN h s f (fun _ => c))
      · refine br_t (by rw [eq, gq]; exact nI_le (by omega) (by omega)) ⟨wq, wk, nm_r (e' := upd ev (k + 1) (nI (A (k / 2)))) (by rw [eq, ek, gq]) (nm_r (nI_1 i) (ih n (i + 1) (k / 2) _ _ (by omega) (by omega) (by omega) (qs_so_i s (by omega) (by omega)) (qs_s2_s s f (by omega) c)))⟩
theorem xl_hu {post : SX → Prop} {N x : Nat} {P : Nat → Prop} (hN : N < 12) (hx : x < 49312) (hP : ¬ P x) (hS : qx_St 2 N eV cA P) (h : ∀ ev', (∀ cal, qx_St 2 (N + 1) ev' cal (fun y => P y ∨ y = x)) → post (mm, nw, nI N, sC, rU, aR, vC, vS, vN, jT, bG, lV, oJ, oB, oL, cV, wA, fR, ev', cA)) : wpX_addToHeap post (mm, nw, nI N, sC, rU, aR, vC, vS, vN, jT, bG, lV, oJ, oB, oL, cV, wA, fR, eV, cA) (nI x) := by
  obtain ⟨A, a1, a2, a3, a4⟩ := hS.1 (by omega)
  exact ⟨13, xl_hu_l hN hx h 12 13 0 N _ _ (by omega) (by omega) (by omega) (qs_so_0 a1 a2 hP hS.2.2 hx) (qs_up0 (a4 rfl))⟩
-- engine 2, down
theorem xl_hd_x {post : SX → Prop} {l x k : Nat} {P : Nat → Prop} {ev : Nat → Int32} {A : Nat → Nat} (hl : l < 12) (h : ∀ ev', (∀ cal, qx_St 2 l ev' cal P) → post (mm, nw, nc, sC, rU, aR, vC, vS, vN, jT, bG, lV, oJ, oB, oL, cV, wA, fR, ev', cA)) (s : qs_hd l k x ev P A) (hm : ∀ i, 0 < i → i < l → (i - 1) / 2 = k → x ≤ A i) : vp_in (nI k) 12 ∧ ∀ a : Nat → Int32, a = upd ev (nI k).toNatClampNeg (nI x) → post (mm, nw, nc, sC, rU, aR, vC, vS, vN, jT, bG, lV, oJ, oB, oL, cV, wA, fR, a, cA) := by
  have h4 := s.2.2.2.2.1
  have ek : (nI k).toNatClampNeg = k := nI_clamp (by omega)
  exact ⟨vp_in_nI (by omega) (by omega), nm_r (e' := upd ev k (nI x)) (by rw [ek]) (h _ (fun cal => qs_hd_e s hm))⟩
theorem xl_hd_j {post : SX → Prop} {l x k c i : Nat} {P : Nat → Prop} {ev : Nat → Int32} {A : Nat → Nat} {J : _} (hl : l < 12) (h : ∀ ev', (∀ cal, qx_St 2 l ev' cal P) → post (mm, nw, nc, sC, rU, aR, vC, vS, vN, jT, bG, lV, oJ, oB, oL, cV, wA, fR, ev', cA)) (s : qs_hd l k x ev P A) (hx : x < 49312) (hc : c = 2 * k + 1 ∨ (c = 2 * k + 2 ∧ c < l)) (hm : c < l → ∀ i, 0 < i → i < l → (i - 1) / 2 = k → A c ≤ A i)
    (hJ : ∀ ev' A', c < l → qs_hd l c x ev' P A' → J (nI c) (nI (i + 1)) sC rU aR vC vS vN jT bG lV oJ oB oL cV wA fR ev' cA) : wX_removeTopOfHeap_63 post J (nI l) (nI x) (nI k) (nI i) (nI c) mm nw nc sC rU aR vC vS vN jT bG lV oJ oB oL cV wA fR ev cA := by
  have h4 := s.2.2.2.2.1
  by_cases cl : c < l
  · have ek : (nI k).toNatClampNeg = k := nI_clamp (by omega)
    have ec : (nI c).toNatClampNeg = c := nI_clamp (by omega)
    have wk : vp_in (nI k) 12 := vp_in_nI (by omega) (by omega)
    have wc : vp_in (nI c) 12 := vp_in_nI (by omega) (by omega)
    obtain ⟨gc, bc⟩ := qs_hd_v s (j := c) cl (by omega)
    refine br_f (nI_ge cl (by omega)) ⟨wc, ?_⟩
    by_cases g : x < A c
    · refine br_f (by rw [ec, gc]; exact nI_ge g (by omega)) (xl_hd_x hl h s (fun j j0 hj hp => ?_))
      have := hm cl j j0 hj hp
      omega
    · refine br_t (by rw [ec, gc]; exact nI_le (by omega) (by omega)) ⟨wc, wk, nm_r (e' := upd ev k (nI (A c))) (by rw [ec, ek, gc]) (nm_r (nI_1 i) (hJ _ _ cl (qs_hd_s s (by omega) cl (by omega) (by omega) (hm cl))))⟩
  · refine br_t (nI_le (by omega) (by omega)) (xl_hd_x hl h s (fun j j0 hj hp => ?_))
    omega
theorem xl_hd_l {post : SX → Prop} {l x : Nat} {P : Nat → Prop} (hl : l < 12) (hx : x < 49312) (h : ∀ ev', (∀ cal, qx_St 2 l ev' cal P) → post (mm, nw, nc, sC, rU, aR, vC, vS, vN, jT, bG, lV, oJ, oB, oL, cV, wA, fR, ev', cA)) :
    ∀ (d n i k : Nat) (ev : Nat → Int32) (A : Nat → Nat), i + d = 12 → d < n → i ≤ k → qs_hd l k x ev P A → wX_removeTopOfHeap_19 post (nI l) (nI x) mm nw nc n (nI k) (nI i) sC rU aR vC vS vN jT bG lV oJ oB oL cV wA fR ev cA := by
  intro d
  induction d with
  | zero =>
    intro n i k ev A h1 h2 h3 s
    have h4 := s.2.2.2.2.1
    omega
  | succ d ih =>
    intro n i k ev A h1 h2 h3 s
    obtain ⟨n, rfl⟩ : ∃ m, n = m + 1 := ⟨n - 1, by omega⟩
    have h4 := s.2.2.2.2.1
    have e1 : 2 * nI k + 1 = nI (2 * k + 1) := by
      rw [show (2 : Int32) = nI 2 from rfl, pk_mul, nI_1]
    have e2 : nI (2 * k + 1) + 1 = nI (2 * k + 2) := nI_1 _
    rw [wX_removeTopOfHeap_19]
    refine br_f (nI_ge (b := 12) (by omega) (by decide)) (nm_r e1 ?_)
    have J : ∀ (c : Nat) (ev' : Nat → Int32) (A' : Nat → Nat), 2 * k + 1 ≤ c → c < l → qs_hd l c x ev' P A' → wX_removeTopOfHeap_19 post (nI l) (nI x) mm nw nc n (nI c) (nI (i + 1)) sC rU aR vC vS vN jT bG lV oJ oB oL cV wA fR ev' cA := fun c ev' A' hc _ s' => ih n (i + 1) c ev' A' (by omega) (by omega) (by omega) s'
    by_cases c2 : 2 * k + 2 < l
    · have ec : (nI (2 * k + 1)).toNatClampNeg = 2 * k + 1 := nI_clamp (by omega)
      have ec2 : (nI (2 * k + 1) + 1).toNatClampNeg = 2 * k + 2 := by rw [e2]; exact nI_clamp (by omega)
      have wc : vp_in (nI (2 * k + 1)) 12 := vp_in_nI (by omega) (by omega)
      have wc2 : vp_in (nI (2 * k + 1) + 1) 12 := by rw [e2]; exact vp_in_nI (by omega) (by omega)
      obtain ⟨g1, b1⟩ := qs_hd_v s (j := 2 * k + 1) (by omega) (by omega)
      obtain ⟨g2, b2⟩ := qs_hd_v s (j := 2 * k + 2) (by omega) (by omega)
      refine br_f (by rw [e2]; exact nI_ge (by omega) (by omega)) ⟨wc2, wc, ?_⟩
      by_cases g : A (2 * k + 2) < A (2 * k + 1)
      · refine br_f (by rw [ec, ec2, g1, g2]; exact nI_ge g (by omega)) (nm_r e2 (xl_hd_j hl h s hx (Or.inr ⟨rfl, c2⟩) (fun _ j j0 hj hp => ?_) (fun ev' A' hc s' => J _ ev' A' (by omega) hc s')))
        have : j = 2 * k + 1 ∨ j = 2 * k + 2 := by omega
        rcases this with e | e
        · rw [e]; omega
        · rw [e]; exact Nat.le_refl _
      · refine br_t (by rw [ec, ec2, g1, g2]; exact nI_le (by omega) (by omega)) (xl_hd_j hl h s hx (Or.inl rfl) (fun _ j j0 hj hp => ?_) (fun ev' A' hc s' => J _ ev' A' (by omega) hc s'))
        have : j = 2 * k + 1 ∨ j = 2 * k + 2 := by omega
        rcases this with e | e
        · rw [e]; exact Nat.le_refl _
        · rw [e]; omega
    · refine br_t (by rw [e2]; exact nI_le (by omega) (by omega)) (xl_hd_j hl h s hx (Or.inl rfl) (fun _ j j0 hj hp => ?_) (fun ev' A' hc s' => J _ ev' A' (by omega) hc s'))
      have e : j = 2 * k + 1 := by omega
      rw [e]; exact Nat.le_refl _
theorem xl_hd {post : SX → Prop} {l x : Nat} {P : Nat → Prop} {A : Nat → Nat} (hl : l < 12) (hA : ∀ i, i < l + 1 → eV i = nI (A i)) (hS : qs_St A (l + 1) P) (hh : qs_hp A (l + 1)) (hb : ∀ y, P y → y < 49312) (hx : A 0 = x) (h : ∀ ev', (∀ cal, qx_St 2 l ev' cal (fun y => P y ∧ y ≠ x)) → post (mm, nw, nI (l + 1), sC, rU, aR, vC, vS, vN, jT, bG, lV, oJ, oB, oL, cV, wA, fR, ev', cA)) : wpX_removeTopOfHeap post (mm, nw, nI (l + 1), sC, rU, aR, vC, vS, vN, jT, bG, lV, oJ, oB, oL, cV, wA, fR, eV, cA) := by
  have el : (nI l).toNatClampNeg = l := nI_clamp (by omega)
  have s := qs_hd_0 hA hS hh hb
  rw [hx] at s
  exact nm_r (nI_pred l) ⟨vp_in_nI (by omega) (by omega), nm_r (e' := nI (A l)) (by rw [el]; exact hA l (by omega)) ⟨13, xl_hd_l hl (hb _ (hS.1 l (by omega))) h 12 13 0 0 _ _ (by omega) (by omega) (by omega) s⟩⟩
-- engine 3
theorem xl_ci {J : Int32 → Prop} {post : Int32 → Prop} {x : Nat} {P : Nat → Prop} (hx2 : x < 49312) (hS : qs_Ca cA P) (hP : P x) (hm : ∀ y, P y → x ≤ y) (h : post (nI x)) :
    ∀ (d n k : Nat), k + d = x % 32 → d < n → wX_firstInCalendar_14 post J (nI (x / 32)) mm nw nc sC rU aR vC vS vN jT bG lV oJ oB oL cV wA fR eV cA n (nI k) := by
  have et : (nI (x / 32)).toNatClampNeg = x / 32 := nI_clamp (by omega)
  have wt : vp_in (nI (x / 32)) 1541 := vp_in_nI (by omega) (by omega)
  have ex : x / 32 * 32 + x % 32 = x := by omega
  have nz : ¬ cA (x / 32) = 0 := qs_Ca_nz (k := x % 32) hS (by omega) (by omega) (by rw [ex]; exact hP)
  intro d
  induction d with
  | zero =>
    intro n k h1 h2
    obtain ⟨n, rfl⟩ : ∃ m, n = m + 1 := ⟨n - 1, by omega⟩
    rw [wX_firstInCalendar_14]
    have hb : (cA (x / 32) >>> (nI k &&& 31)) &&& 1 = 1 := (qs_test (by omega)).mpr ((hS _ (by omega) k (by omega)).mpr (by rw [show k = x % 32 by omega, ex]; exact hP))
    refine br_f (nI_ge (b := 32) (by omega) (by decide)) ⟨wt, br_f (by rw [et]; exact nz) ⟨wt, br_t (by rw [et]; exact hb) ?_⟩⟩
    have e : nI (x / 32) * 32 + nI k = nI x := by
      rw [show (32 : Int32) = nI 32 from rfl, pk_mul, nI_add]
      congr 1
      omega
    rw [e]; exact h
  | succ d ih =>
    intro n k h1 h2
    obtain ⟨n, rfl⟩ : ∃ m, n = m + 1 := ⟨n - 1, by omega⟩
    rw [wX_firstInCalendar_14]
    have hb : ¬ (cA (x / 32) >>> (nI k &&& 31)) &&& 1 = 1 := fun z => by
      have h3 := (hS _ (by omega) k (by omega)).mp ((qs_test (by omega)).mp z)
      have h4 := hm _ h3
      omega
    exact br_f (nI_ge (b := 32) (by omega) (by decide)) ⟨wt, br_f (by rw [et]; exact nz) ⟨wt, br_f (by rw [et]; exact hb) (nm_r (nI_1 k) (ih n (k + 1) (by omega) (by omega)))⟩⟩
theorem xl_co {post : Int32 → Prop} {x : Nat} {P : Nat → Prop} (hx2 : x < 49312) (hS : qs_Ca cA P) (hP : P x) (hm : ∀ y, P y → x ≤ y) (h : post (nI x)) :
    ∀ (d n t : Nat), t + d = x / 32 → d < n → wX_firstInCalendar_5 post mm nw nc sC rU aR vC vS vN jT bG lV oJ oB oL cV wA fR eV cA n (nI t) := by
  intro d
  induction d with
  | zero =>
    intro n t h1 h2
    obtain ⟨n, rfl⟩ : ∃ m, n = m + 1 := ⟨n - 1, by omega⟩
    rw [wX_firstInCalendar_5]
    have e : t = x / 32 := by omega
    rw [e]
    exact br_f (nI_ge (b := 1541) (by omega) (by decide)) ⟨x % 32 + 1, xl_ci hx2 hS hP hm h (x % 32) (x % 32 + 1) 0 (by omega) (by omega)⟩
  | succ d ih =>
    intro n t h1 h2
    obtain ⟨n, rfl⟩ : ∃ m, n = m + 1 := ⟨n - 1, by omega⟩
    rw [wX_firstInCalendar_5]
    have et : (nI t).toNatClampNeg = t := nI_clamp (by omega)
    have wt : vp_in (nI t) 1541 := vp_in_nI (by omega) (by omega)
    have z : cA t = 0 := qs_Ca_z hS (by omega) (fun k hk hP' => by have := hm _ hP'; omega)
    refine br_f (nI_ge (b := 1541) (by omega) (by decide)) ⟨1, ?_⟩
    rw [wX_firstInCalendar_14]
    exact br_f (nI_ge (a := 0) (b := 32) (by omega) (by decide)) ⟨wt, br_t (by rw [et]; exact z) (nm_r (nI_1 t) (ih n (t + 1) (by omega) (by omega)))⟩
theorem xl_ca {post : Int32 → Prop} {x w : Nat} {P : Nat → Prop} (hx2 : x < 49312) (hS : qs_Ca cA P) (hP : P x) (hm : ∀ y, P y → x ≤ y) (hw : w * 32 ≤ x) (h : post (nI x)) : wpX_firstInCalendar post (mm, nI w, nc, sC, rU, aR, vC, vS, vN, jT, bG, lV, oJ, oB, oL, cV, wA, fR, eV, cA) :=
  ⟨x / 32 - w + 1, xl_co hx2 hS hP hm h (x / 32 - w) _ w (by omega) (by omega)⟩
end XS
