theorem i_vc_leaves {k : Nat} {u : SX} {v : SY} (I : i_Rel k u v) (hk : k + 4 ≤ 2048) (v1 : Int32) (v2 : Int32) : wpX_leaves (fun r u' => wpY_leaves (fun r' => r' = r ∧ i_Rel (k + 4) u' v) v v1 v2) u v1 v2 := by
  obtain ⟨p, ok, ⟨_, _, _, _, _, _, _, _, _, _, _, _, _, rfl⟩, jT, bG, lV, nW, Rs, rfl⟩ := I
  refine xp_leaves ok (fun e c u he hc e1 e2 xu => ?_) (fun hn => yp_leaves_f ok hn ⟨rfl, ir_i ok xs_i Rs⟩)
  subst e1 e2
  exact yp_leaves_t ok Rs he hc ⟨rfl, ir_i ok xu Rs⟩
theorem i_vc_joins {k : Nat} {u : SX} {v : SY} (I : i_Rel k u v) (hk : k + 4 ≤ 2048) (v1 : Int32) (v2 : Int32) : wpX_joins (fun r u' => wpY_joins (fun r' => r' = r ∧ i_Rel (k + 4) u' v) v v1 v2) u v1 v2 := by
  obtain ⟨p, ok, ⟨_, _, _, _, _, _, _, _, _, _, _, _, _, rfl⟩, jT, bG, lV, nW, Rs, rfl⟩ := I
  refine xp_joins ok (fun c j u hc hj e1 e2 xu => ?_) (fun hn => yp_joins_f ok hn ⟨rfl, ir_i ok xs_i Rs⟩)
  subst e1 e2
  exact yp_joins_t ok Rs hc hj ⟨rfl, ir_i ok xu Rs⟩
theorem i_vc_begins {k : Nat} {u : SX} {v : SY} (I : i_Rel k u v) (hk : k + 4 ≤ 2048) (v1 : Int32) (v2 : Int32) : wpX_begins (fun r u' => wpY_begins (fun r' => r' = r ∧ i_Rel (k + 4) u' v) v v1 v2) u v1 v2 := by
  obtain ⟨p, ok, ⟨_, _, _, _, _, _, _, _, _, _, _, _, _, rfl⟩, jT, bG, lV, nW, Rs, rfl⟩ := I
  refine xp_begins ok (fun c j u hc hj e1 e2 xu => ?_) (fun hn => yp_begins_f ok hn ⟨rfl, ir_i ok xs_i Rs⟩)
  subst e1 e2
  exact yp_begins_t ok Rs hc hj ⟨rfl, ir_i ok xu Rs⟩
theorem i_vc_at {k : Nat} {u : SX} {v : SY} (I : i_Rel k u v) (hk : k + 4 ≤ 2048) (v1 : Int32) (v2 : Int32) : wpX_at (fun r u' => wpY_at (fun r' => r' = r ∧ i_Rel (k + 4) u' v) v v1 v2) u v1 v2 := by
  obtain ⟨p, ok, ⟨_, _, _, _, _, _, _, _, _, _, _, _, _, rfl⟩, jT, bG, lV, nW, Rs, rfl⟩ := I
  refine xp_at ok (fun s t u hs ht e1 e2 xu => ?_) (fun hn => yp_at_f hn ⟨rfl, ir_i ok xs_i Rs⟩)
  subst e1 e2
  exact yp_at_t ok Rs hs ht ⟨rfl, ir_i ok xu Rs⟩
theorem i_vc_waits {k : Nat} {u : SX} {v : SY} (I : i_Rel k u v) (hk : k + 4 ≤ 2048) (v1 : Int32) (v2 : Int32) : wpX_waits (fun r u' => wpY_waits (fun r' => r' = r ∧ i_Rel (k + 4) u' v) v v1 v2) u v1 v2 := by
  obtain ⟨p, ok, ⟨_, _, _, _, _, _, _, _, _, _, _, _, _, rfl⟩, jT, bG, lV, nW, Rs, rfl⟩ := I
  refine xp_waits ok (fun s t u hs ht e1 e2 xu => ?_) (fun hn => yp_waits_f hn ⟨rfl, ir_i ok xs_i Rs⟩)
  subst e1 e2
  exact yp_waits_t ok Rs hs ht ⟨rfl, ir_i ok xu Rs⟩
theorem i_vc_area {k : Nat} {u : SX} {v : SY} (I : i_Rel k u v) (hk : k + 4 ≤ 2048) (v1 : Int32) (v2 : Int32) : wpX_area (fun r u' => wpY_area (fun r' => r' = r ∧ i_Rel (k + 4) u' v) v v1 v2) u v1 v2 := by
  obtain ⟨p, ok, ⟨_, _, _, _, _, _, _, _, _, _, _, _, _, rfl⟩, jT, bG, lV, nW, Rs, rfl⟩ := I
  refine xp_area ok (fun s t u hs ht e1 e2 xu => ?_) (fun hn => yp_area_f hn ⟨rfl, ir_i ok xs_i Rs⟩)
  subst e1 e2
  exact yp_area_t ok Rs hs ht ⟨rfl, ir_i ok xu Rs⟩
theorem i_vc_stays {k : Nat} {u : SX} {v : SY} (I : i_Rel k u v) (hk : k + 4 ≤ 2048) (v1 : Int32) : wpX_stays (fun r u' => wpY_stays (fun r' => r' = r ∧ i_Rel (k + 4) u' v) v v1) u v1 := by
  obtain ⟨p, ok, ⟨_, _, _, _, _, _, _, _, _, _, _, _, _, rfl⟩, jT, bG, lV, nW, Rs, rfl⟩ := I
  refine xp_stays ok (fun s u hs e1 xu => ?_) (fun hn => yp_stays_f hn ⟨rfl, ir_i ok xs_i Rs⟩)
  subst e1
  exact yp_stays_t ok Rs hs ⟨rfl, ir_i ok xu Rs⟩
theorem i_vc_busy {k : Nat} {u : SX} {v : SY} (I : i_Rel k u v) (hk : k + 4 ≤ 2048) (v1 : Int32) : wpX_busy (fun r u' => wpY_busy (fun r' => r' = r ∧ i_Rel (k + 4) u' v) v v1) u v1 := by
  obtain ⟨p, ok, ⟨_, _, _, _, _, _, _, _, _, _, _, _, _, rfl⟩, jT, bG, lV, nW, Rs, rfl⟩ := I
  refine xp_busy ok (fun s u hs e1 xu => ?_) (fun hn => ?_)
  · refine yp_busy ok Rs (fun s' hs' e2 => ?_) (fun hn => absurd ⟨s, hs, e1⟩ hn)
    have e : s' = s := (nI_eq (by omega) (by omega)).mp (e2.symm.trans e1)
    rw [e]
    exact ⟨rfl, ir_i ok xu Rs⟩
  · exact yp_busy ok Rs (fun s hs e => absurd ⟨s, hs, e⟩ hn) (fun _ => ⟨rfl, ir_i ok xs_i Rs⟩)
theorem i_vc_longest {k : Nat} {u : SX} {v : SY} (I : i_Rel k u v) (hk : k + 4 ≤ 2048) (v1 : Int32) : wpX_longest (fun r u' => wpY_longest (fun r' => r' = r ∧ i_Rel (k + 4) u' v) v v1) u v1 := by
  obtain ⟨p, ok, ⟨_, _, _, _, _, _, _, _, _, _, _, _, _, rfl⟩, jT, bG, lV, nW, Rs, rfl⟩ := I
  refine xp_longest ok (fun s u hs e1 xu => ?_) (fun hn => ?_)
  · refine yp_longest ok Rs (fun s' hs' e2 => ?_) (fun hn => absurd ⟨s, hs, e1⟩ hn)
    have e : s' = s := (nI_eq (by omega) (by omega)).mp (e2.symm.trans e1)
    rw [e]
    exact ⟨rfl, ir_i ok xu Rs⟩
  · exact yp_longest ok Rs (fun s hs e => absurd ⟨s, hs, e⟩ hn) (fun _ => ⟨rfl, ir_i ok xs_i Rs⟩)
theorem i_vc_last {k : Nat} {u : SX} {v : SY} (I : i_Rel k u v) (hk : k + 4 ≤ 2048) : wpX_last (fun r u' => wpY_last (fun r' => r' = r ∧ i_Rel (k + 4) u' v) v) u := by
  obtain ⟨p, ok, ⟨_, _, _, _, _, _, _, _, _, _, _, _, _, rfl⟩, jT, bG, lV, nW, Rs, rfl⟩ := I
  exact xp_last ok (fun u xu => yq_la ok Rs ⟨rfl, ir_i ok xu Rs⟩)
theorem i_vc_order {k : Nat} {u : SX} {v : SY} (I : i_Rel k u v) (hk : k + 4 ≤ 2048) (v1 : Int32) : wpX_order (fun r u' => wpY_order (fun r' => r' = r ∧ i_Rel (k + 4) u' v) v v1) u v1 := by
  obtain ⟨p, ok, ⟨_, _, _, _, _, _, _, _, _, _, _, _, _, rfl⟩, jT, bG, lV, nW, Rs, rfl⟩ := I
  exact xp_order ok (fun r u hr xu => yq_or ok Rs (fun q hq => ⟨qq_or_u ok hr hq, ir_i ok xu Rs⟩))
theorem i_vc_agree {k : Nat} {u : SX} {v : SY} (I : i_Rel k u v) (hk : k + 4 ≤ 2048) (v1 : Int32) (v2 : Int32) : wpX_agree (fun r u' => wpY_agree (fun r' => r' = r ∧ i_Rel (k + 4) u' v) v v1 v2) u v1 v2 := by
  obtain ⟨p, ok, ⟨_, _, _, _, _, _, _, _, _, _, _, _, _, rfl⟩, jT, bG, lV, nW, Rs, rfl⟩ := I
  exact xp_agree ok (fun u h1 h2 xu => yp_agree_t h1 h2 ⟨rfl, ir_i ok xu Rs⟩) (fun hn => yp_agree_f hn ⟨rfl, ir_i ok xs_i Rs⟩)
