section XE
variable {p : qp_T} {mm nw nc : Int32} {sC rU aR vC vS vN jT bG lV oJ oB oL cV wA fR eV cA : Nat → Int32}
theorem xl_e4 {e : Nat} (he : e < 4) : e = 0 ∨ e = 1 ∨ e = 2 ∨ e = 3 := by omega
theorem xl_d32 {x : Nat} (hx : x < 49312) : nI x / 32 = nI (x / 32) := pk_div (d := 32) (by omega) (by omega) (by omega)
theorem xl_r32 {x : Nat} (hx : x < 49312) : nI x - nI x / 32 * 32 = nI (x % 32) := pk_rem (d := 32) (by omega) (by omega) (by omega)
theorem xl_ad {post : SX → Prop} {e N x : Nat} {P : Nat → Prop} (he : e < 4) (hN : N < 12) (hx : x < 49312) (hP : ¬ P x) (hS : qx_St e N eV cA P) (h : ∀ ev' cal', qx_St e (N + 1) ev' cal' (fun y => P y ∨ y = x) → post (mm, nw, nI (N + 1), sC, rU, aR, vC, vS, vN, jT, bG, lV, oJ, oB, oL, cV, wA, fR, ev', cal')) : wpX_addEvent post (mm, nw, nI N, sC, rU, aR, vC, vS, vN, jT, bG, lV, oJ, oB, oL, cV, wA, fR, eV, cA) (nI e) (nI x) := by
  rcases xl_e4 he with rfl | rfl | rfl | rfl
  · exact br_t rfl ⟨vp_in_nI hN (by omega), nm_r (e' := upd eV N (nI x)) (by rw [nI_clamp (by omega)]) (nm_r (nI_1 N) (h _ _ (qs_ad0 hS hP hx)))⟩
  · exact br_f (by decide) (br_t rfl (xl_so hN hx hP hS (fun ev' s => nm_r (nI_1 N) (h _ _ (s _)))))
  · exact br_f (by decide) (br_f (by decide) (br_t rfl (xl_hu hN hx hP hS (fun ev' s => nm_r (nI_1 N) (h _ _ (s _))))))
  · have ed := xl_d32 hx
    have er := xl_r32 hx
    have ec : (nI x / 32).toNatClampNeg = x / 32 := by rw [ed]; exact nI_clamp (by omega)
    have w : vp_in (nI x / 32) 1541 := by rw [ed]; exact vp_in_nI (by omega) (by omega)
    exact br_f (by decide) (br_f (by decide) (br_f (by decide) ⟨by decide, w, by decide, w, nm_r (e' := upd cA (x / 32) (cA (x / 32) ||| ((1 : Int32) <<< (nI (x % 32) &&& 31)))) (by rw [ec, er]) (nm_r (nI_1 N) (h _ _ (qs_ad3 hS hx)))⟩))
theorem xl_fi {post : Int32 → Prop} {e N x w : Nat} {P : Nat → Prop} (he : e < 4) (h0 : 0 < N) (hN : N ≤ 12) (hx2 : x < 49312) (hS : qx_St e N eV cA P) (hP : P x) (hm : ∀ y, P y → x ≤ y) (hw : w * 32 ≤ x) (h : post (nI x)) : wpX_firstEvent post (mm, nI w, nI N, sC, rU, aR, vC, vS, vN, jT, bG, lV, oJ, oB, oL, cV, wA, fR, eV, cA) (nI e) := by
  rcases xl_e4 he with rfl | rfl | rfl | rfl
  · obtain ⟨A, a1, a2, a3, a4⟩ := hS.1 (by omega)
    refine br_t rfl (xl_pl h0 hN a1 (fun i hi => hS.2.2 _ (a2.1 i hi)) (fun q hq hl => ⟨vp_in_nI (by omega) (by omega), ?_⟩))
    have e : eV (nI q).toNatClampNeg = nI x := by rw [nI_clamp (by omega), a1 q hq, qs_fst a2 hq hl hP hm]
    rw [e]; exact h
  · obtain ⟨A, a1, a2, a3, a4⟩ := hS.1 (by omega)
    obtain ⟨N, rfl⟩ : ∃ m, N = m + 1 := ⟨N - 1, by omega⟩
    have e1 : nI (N + 1) - 1 = nI N := nI_pred N
    have hl : ∀ i, i < N + 1 → A N ≤ A i := fun i hi => by
      by_cases c : i = N
      · rw [c]; exact Nat.le_refl _
      · have := a3 rfl i N (by omega) (by omega); omega
    have e : eV (nI (N + 1) - 1).toNatClampNeg = nI x := by rw [e1, nI_clamp (by omega), a1 N (by omega), qs_fst a2 (by omega) hl hP hm]
    refine br_f (by decide) (br_t rfl ⟨by rw [e1]; exact vp_in_nI (by omega) (by omega), ?_⟩)
    rw [e]; exact h
  · obtain ⟨A, a1, a2, a3, a4⟩ := hS.1 (by omega)
    have e : eV 0 = nI x := by rw [a1 0 h0, qs_fst a2 h0 (qs_top (a4 rfl)) hP hm]
    refine br_f (by decide) (br_f (by decide) (br_t rfl ?_))
    rw [e]; exact h
  · exact br_f (by decide) (br_f (by decide) (br_f (by decide) (xl_ca hx2 (hS.2.1 (by omega)) hP hm hw h)))
theorem xl_re {post : SX → Prop} {e N x w : Nat} {P : Nat → Prop} (he : e < 4) (hN : N < 12) (hx2 : x < 49312) (hS : qx_St e (N + 1) eV cA P) (hP : P x) (hm : ∀ y, P y → x ≤ y) (hw : w * 32 ≤ x) (h : ∀ ev' cal', qx_St e N ev' cal' (fun y => P y ∧ y ≠ x) → post (mm, nI w, nI N, sC, rU, aR, vC, vS, vN, jT, bG, lV, oJ, oB, oL, cV, wA, fR, ev', cal')) : wpX_removeFirstEvent post (mm, nI w, nI (N + 1), sC, rU, aR, vC, vS, vN, jT, bG, lV, oJ, oB, oL, cV, wA, fR, eV, cA) (nI e) := by
  have e1 : nI (N + 1) - 1 = nI N := nI_pred N
  rcases xl_e4 he with rfl | rfl | rfl | rfl
  · obtain ⟨A, a1, a2, a3, a4⟩ := hS.1 (by omega)
    have en : (nI (N + 1) - 1).toNatClampNeg = N := by rw [e1]; exact nI_clamp (by omega)
    exact br_t rfl (xl_pl (by omega) (by omega) a1 (fun i hi => hS.2.2 _ (a2.1 i hi)) (fun q hq hl => ⟨by rw [e1]; exact vp_in_nI (by omega) (by omega), vp_in_nI (by omega) (by omega), nm_r (e' := upd eV q (eV N)) (by rw [en, nI_clamp (by omega)]) (nm_r e1 (h _ _ (qs_rm0 a1 a2 hS.2.2 (by omega) (qs_fst a2 hq hl hP hm))))⟩))
  · obtain ⟨A, a1, a2, a3, a4⟩ := hS.1 (by omega)
    have hl : ∀ i, i < N + 1 → A N ≤ A i := fun i hi => by
      by_cases c : i = N
      · rw [c]; exact Nat.le_refl _
      · have := a3 rfl i N (by omega) (by omega); omega
    exact br_f (by decide) (br_f (by decide) (br_t rfl (nm_r e1 (h _ _ (qs_rm1 a1 a2 (a3 rfl) hS.2.2 (qs_fst a2 (by omega) hl hP hm))))))
  · obtain ⟨A, a1, a2, a3, a4⟩ := hS.1 (by omega)
    exact br_f (by decide) (br_t rfl (xl_hd hN a1 a2 (a4 rfl) hS.2.2 (qs_fst a2 (by omega) (qs_top (a4 rfl)) hP hm) (fun ev' s => nm_r e1 (h _ _ (s _)))))
  · have ed := xl_d32 hx2
    have er := xl_r32 hx2
    have ec : (nI x / 32).toNatClampNeg = x / 32 := by rw [ed]; exact nI_clamp (by omega)
    have wx : vp_in (nI x / 32) 1541 := by rw [ed]; exact vp_in_nI (by omega) (by omega)
    exact br_f (by decide) (br_f (by decide) (br_f (by decide) (xl_ca hx2 (hS.2.1 (by omega)) hP hm hw ⟨by decide, wx, by decide, wx, nm_r (e' := upd cA (x / 32) (cA (x / 32) &&& (((1 : Int32) <<< (nI (x % 32) &&& 31)) ^^^ (-1)))) (by rw [ec, er]) (nm_r e1 (h _ _ (qs_rm3 hS)))⟩)))
end XE
