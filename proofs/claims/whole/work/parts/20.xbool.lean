def ix_v (v : Int32) (n : Nat) : Prop := ∃ j, j < n ∧ v = nI j
theorem ix_f {v : Int32} {n : Nat} (hn : n < 2 ^ 31) (h : ¬ ix_v v n) : v < 0 ∨ (¬ v < 0 ∧ nI n ≤ v) := by
  rcases pk_ix v hn with a | a | ⟨j, hj, e⟩
  · exact Or.inl a
  · by_cases c : v < 0
    · exact Or.inl c
    · exact Or.inr ⟨c, a⟩
  · exact absurd ⟨j, hj, e⟩ h
theorem ix_f1 {v : Int32} {n : Nat} (hn : n + 1 < 2 ^ 31) (h : ¬ ix_v v (n + 1)) : v < 0 ∨ (¬ v < 0 ∧ nI n < v) := by
  rcases ix_f hn h with a | ⟨a, b⟩
  · exact Or.inl a
  · exact Or.inr ⟨a, Int32.lt_of_lt_of_le (nI_lt (by omega) hn) b⟩
section XB
variable {p : qp_T} {mm nw nc : Int32} {sC rU aR vC vS vN jT bG lV oJ oB oL cV wA fR eV cA : Nat → Int32}
theorem xb_st_t {post : Int32 → Prop} {s : Nat} (hs : s < 4) (h : post 1) : wpX_isStation post (nI s) :=
  br_f (nI_pos (by omega)) (br_f (nI_ge (b := 4) hs (by decide)) h)
theorem xb_st_f {post : Int32 → Prop} {v : Int32} (hs : ¬ ix_v v 4) (h : post 0) : wpX_isStation post v := by
  rcases ix_f (by omega) hs with a | ⟨a, b⟩
  · exact br_t a h
  · exact br_f a (br_t b h)
theorem xb_en_t {post : Int32 → Prop} {s : Nat} (hs : s < 4) (h : post 1) : wpX_isEngine post (nI s) :=
  br_f (nI_pos (by omega)) (br_f (nI_ge (b := 4) hs (by decide)) h)
theorem xb_en_f {post : Int32 → Prop} {v : Int32} (hs : ¬ ix_v v 4) (h : post 0) : wpX_isEngine post v := by
  rcases ix_f (by omega) hs with a | ⟨a, b⟩
  · exact br_t a h
  · exact br_f a (br_t b h)
theorem xb_tm_t {post : Int32 → Prop} {t : Nat} (ht : t < 10001) (h : post 1) : wpX_isAskedTime post (nI t) :=
  br_f (nI_pos (by omega)) (br_f (nI_nlt (a := 10000) (b := t) (by omega) (by decide)) h)
theorem xb_tm_f {post : Int32 → Prop} {v : Int32} (hs : ¬ ix_v v 10001) (h : post 0) : wpX_isAskedTime post v := by
  rcases ix_f1 (n := 10000) (by omega) hs with a | ⟨a, b⟩
  · exact br_t a h
  · exact br_f a (br_t b h)
theorem xb_cu_t {post : Int32 → Prop} {c : Nat} (hm : qp_m p ≤ 12) (hc : c < qp_m p) (h : post 1) : wpX_isCustomer post ((nI (qp_m p)), nw, nc, (qp_SV p), (qp_RU p), (qp_AR p), (qp_VC p), (qp_VS p), (qp_VN p), jT, bG, lV, oJ, oB, oL, cV, wA, fR, eV, cA) (nI c) :=
  br_f (nI_pos (by omega)) (br_f (nI_ge hc (by omega)) h)
theorem xb_cu_f {post : Int32 → Prop} {v : Int32} (hm : qp_m p ≤ 12) (hs : ¬ ix_v v (qp_m p)) (h : post 0) : wpX_isCustomer post ((nI (qp_m p)), nw, nc, (qp_SV p), (qp_RU p), (qp_AR p), (qp_VC p), (qp_VS p), (qp_VN p), jT, bG, lV, oJ, oB, oL, cV, wA, fR, eV, cA) v := by
  rcases ix_f (by omega) hs with a | ⟨a, b⟩
  · exact br_t a h
  · exact br_f a (br_t b h)
end XB
