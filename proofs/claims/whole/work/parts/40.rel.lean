def i_Rel (_ : Nat) (u : SX) (v : SY) : Prop := ∃ p : qp_T, qp_ok p ∧ xs_S p u ∧ ∃ jT bG lV nW : Nat → Int32, qn_Rs p jT bG lV ∧ v = ((nI (qp_m p)), (qp_SV p), (qp_RU p), (qp_AR p), (qp_VC p), (qp_VS p), (qp_VN p), jT, bG, lV, nW)
theorem i_up {k : Nat} {u : SX} {v : SY} (h : i_Rel k u v) : i_Rel (k + 4) u v := h
theorem iv_n {v : Int32} {a b : Nat} (h1 : ¬ v < nI a) (h2 : ¬ nI b < v) (ha : a < 2 ^ 31) (hb : b + 1 < 2 ^ 31) : ∃ n, a ≤ n ∧ n ≤ b ∧ v = nI n := by
  by_cases x : ix_v v (b + 1)
  · obtain ⟨n, hn, rfl⟩ := x
    refine ⟨n, ?_, by omega, rfl⟩
    rcases Nat.lt_or_ge n a with c | c
    · exact absurd (nI_lt c ha) h1
    · exact c
  · rcases ix_f1 hb x with c | ⟨c, d⟩
    · exact absurd (Int32.lt_of_lt_of_le c (nI_pos' ha)) h1
    · exact absurd d h2
theorem ir_i {k : Nat} {p : qp_T} {u : SX} {jT bG lV nW : Nat → Int32} (ok : qp_ok p) (xu : xs_S p u) (Rs : qn_Rs p jT bG lV) : i_Rel k u ((nI (qp_m p)), (qp_SV p), (qp_RU p), (qp_AR p), (qp_VC p), (qp_VS p), (qp_VN p), jT, bG, lV, nW) := ⟨p, ok, xu, jT, bG, lV, nW, Rs, rfl⟩
theorem ic_x {post : SX → Prop} (h : post (0, 0, 0, qp_SV qp_p0, qp_RU qp_p0, fun _ => 0, fun _ => 0, fun _ => 0, fun _ => 0, fun _ => 0, fun _ => 0, fun _ => 0, fun _ => 0, fun _ => 0, fun _ => 0, fun _ => 0, fun _ => 0, fun _ => 0, fun _ => 0, fun _ => 0)) :
    ∀ (d n i : Nat) (sc ru : Nat → Int32), i + d = 4 → d < n → (∀ j, sc j = if j < i then 1 else 0) → (∀ j, ru j = 0) → wX_init_155 post 0 0 0 n (nI i) sc ru (fun _ => 0) (fun _ => 0) (fun _ => 0) (fun _ => 0) (fun _ => 0) (fun _ => 0) (fun _ => 0) (fun _ => 0) (fun _ => 0) (fun _ => 0) (fun _ => 0) (fun _ => 0) (fun _ => 0) (fun _ => 0) (fun _ => 0) := by
  intro d
  induction d with
  | zero =>
    intro n i sc ru h1 h2 h3 h4
    obtain ⟨n, rfl⟩ : ∃ m, n = m + 1 := ⟨n - 1, by omega⟩
    rw [wX_init_155]
    have ei : i = 4 := by omega
    subst ei
    have e1 : sc = qp_SV qp_p0 := by
      funext j
      rw [h3 j]
      show _ = nI (if j < 4 then 1 else 0)
      by_cases g : j < 4
      · rw [if_pos g, if_pos g]; rfl
      · rw [if_neg g, if_neg g]; rfl
    have e2 : ru = qp_RU qp_p0 := by
      funext j
      rw [h4 j]; rfl
    subst e1 e2
    exact br_t (nI_le (a := 4) (b := 4) (by omega) (by omega)) h
  | succ d ih =>
    intro n i sc ru h1 h2 h3 h4
    obtain ⟨n, rfl⟩ : ∃ m, n = m + 1 := ⟨n - 1, by omega⟩
    rw [wX_init_155]
    have ei : (nI i).toNatClampNeg = i := nI_clamp (by omega)
    have wi : vp_in (nI i) 4 := vp_in_nI (by omega) (by omega)
    refine br_f (nI_ge (b := 4) (by omega) (by decide)) ⟨wi, nm_r (e' := upd sc i 1) (by rw [ei]) ⟨wi, nm_r (e' := upd ru i 0) (by rw [ei]) (nm_r (nI_1 i) (ih n (i + 1) _ _ (by omega) (by omega) (fun j => ?_) (fun j => ?_)))⟩⟩
    · by_cases f : j = i
      · rw [f, pk_us, if_pos (by omega)]
      · rw [pk_un f, h3 j]
        by_cases g : j < i
        · rw [if_pos g, if_pos (by omega)]
        · rw [if_neg g, if_neg (by omega)]
    · by_cases f : j = i
      · rw [f, pk_us]
      · rw [pk_un f]; exact h4 j
theorem ic_y {post : SY → Prop} (h : post (0, qp_SV qp_p0, fun _ => 0, fun _ => 0, fun _ => 0, fun _ => 0, fun _ => 0, fun _ => 0, fun _ => 0, fun _ => 0, fun _ => 0)) :
    ∀ (d n i : Nat) (sc : Nat → Int32), i + d = 4 → d < n → (∀ j, sc j = if j < i then 1 else 0) → wY_init_84 post 0 n (nI i) sc (fun _ => 0) (fun _ => 0) (fun _ => 0) (fun _ => 0) (fun _ => 0) (fun _ => 0) (fun _ => 0) (fun _ => 0) (fun _ => 0) := by
  intro d
  induction d with
  | zero =>
    intro n i sc h1 h2 h3
    obtain ⟨n, rfl⟩ : ∃ m, n = m + 1 := ⟨n - 1, by omega⟩
    rw [wY_init_84]
    have ei : i = 4 := by omega
    subst ei
    have e1 : sc = qp_SV qp_p0 := by
      funext j
      rw [h3 j]
      show _ = nI (if j < 4 then 1 else 0)
      by_cases g : j < 4
      · rw [if_pos g, if_pos g]; rfl
      · rw [if_neg g, if_neg g]; rfl
    subst e1
    exact br_t (nI_le (a := 4) (b := 4) (by omega) (by omega)) h
  | succ d ih =>
    intro n i sc h1 h2 h3
    obtain ⟨n, rfl⟩ : ∃ m, n = m + 1 := ⟨n - 1, by omega⟩
    rw [wY_init_84]
    have ei : (nI i).toNatClampNeg = i := nI_clamp (by omega)
    have wi : vp_in (nI i) 4 := vp_in_nI (by omega) (by omega)
    refine br_f (nI_ge (b := 4) (by omega) (by decide)) ⟨wi, nm_r (e' := upd sc i 1) (by rw [ei]) (nm_r (nI_1 i) (ih n (i + 1) _ (by omega) (by omega) (fun j => ?_)))⟩
    by_cases f : j = i
    · rw [f, pk_us, if_pos (by omega)]
    · rw [pk_un f, h3 j]
      by_cases g : j < i
      · rw [if_pos g, if_pos (by omega)]
      · rw [if_neg g, if_neg (by omega)]
theorem i_vc0 : wpX_init (fun u => wpY_init (fun v => i_Rel 0 u v)) :=
  ⟨5, ic_x ⟨5, ic_y ⟨qp_p0, qp_ok0, ⟨_, _, _, _, _, _, _, _, _, _, _, _, _, rfl⟩, _, _, _, _, fun c hc => absurd hc (Nat.not_lt_zero c), rfl⟩ 4 5 0 _ (by omega) (by omega) (fun j => by rw [if_neg (by omega)])⟩ 4 5 0 _ _ (by omega) (by omega) (fun j => by rw [if_neg (by omega)]) (fun _ => rfl)⟩
