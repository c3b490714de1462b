/-! ===== the owed statements: the start, and the questions ===== -/
theorem i_vc0 : wpX_init (fun u => wpY_init (fun v => i_Rel 0 u v)) := by
  refine ⟨5, gx_in (fun la' hl => ?_) 4 0 5 (fun _ => 0) (by omega) (by omega) (fun j hj => absurd hj (Nat.not_lt_zero _))⟩
  refine ⟨gd_0, 0, 0, gd_Inv0, ⟨rfl, rfl, gd_S0, fun y hy => absurd hy (Nat.not_lt_zero _), fun m hm => ⟨none, hl m hm, fun j hj => absurd hj (Nat.not_lt_zero _)⟩, fun j hj => absurd hj (Nat.not_lt_zero _), rfl, fun j hj => absurd hj (Nat.not_lt_zero _), rfl, fun j hj => absurd hj (Nat.not_lt_zero _), fun j hj => absurd hj (Nat.not_lt_zero _)⟩, ⟨rfl, rfl, gd_S0⟩⟩
theorem i_vc_events {k : Nat} {u : SX} {v : SY} (I : i_Rel k u v) (hk : k + 5 ≤ 2560) : wpX_events (fun r => wpY_events (fun r' => r' = r ∧ i_Rel (k + 5) u v) v) u := by
  have J : i_Rel (k + 5) u v := I
  obtain ⟨D, n, g, Iv, hX, hY⟩ := I
  have J' : ∀ v' : SY, gy_R D n g v' → i_Rel (k + 5) u v' := fun v' h => ⟨D, n, g, Iv, hX, h⟩
  have i48 := Iv.1
  have ig := Iv.2.1
  obtain ⟨en, gr, st, oc, yv, mk, tm, cn, us, ws, rd, wi, vf, fa, de, rc, fi, ev, pl, la, so⟩ := u
  obtain ⟨ct, gt, sr, oy, my, mk2, tm2, cn2, us2, ws2, rd2, wi2, vt, fm, dc, ry, fy, od, sy⟩ := v
  obtain ⟨rfl, rfl, S, V, L, w1, rfl, w3, rfl, w5, w6⟩ := hX
  obtain ⟨rfl, rfl, S2⟩ := hY
  exact ⟨rfl, J⟩
theorem i_vc_latest {k : Nat} {u : SX} {v : SY} (I : i_Rel k u v) (hk : k + 5 ≤ 2560) (v1 : Int32) : wpX_latest (fun r => wpY_latest (fun r' => r' = r ∧ i_Rel (k + 5) u v) v v1) u v1 := by
  have J : i_Rel (k + 5) u v := I
  obtain ⟨D, n, g, Iv, hX, hY⟩ := I
  have J' : ∀ v' : SY, gy_R D n g v' → i_Rel (k + 5) u v' := fun v' h => ⟨D, n, g, Iv, hX, h⟩
  have i48 := Iv.1
  have ig := Iv.2.1
  obtain ⟨en, gr, st, oc, yv, mk, tm, cn, us, ws, rd, wi, vf, fa, de, rc, fi, ev, pl, la, so⟩ := u
  obtain ⟨ct, gt, sr, oy, my, mk2, tm2, cn2, us2, ws2, rd2, wi2, vt, fm, dc, ry, fy, od, sy⟩ := v
  obtain ⟨rfl, rfl, S, V, L, w1, rfl, w3, rfl, w5, w6⟩ := hX
  obtain ⟨rfl, rfl, S2⟩ := hY
  unfold wpX_latest wpY_latest
  rcases pk_ix v1 (n := 4) (by omega) with h | h | ⟨j, hj, rfl⟩
  · exact gx_m0 (Or.inl h) (br_t rfl (br_t h ⟨rfl, J⟩))
  · refine gx_m0 (Or.inr h) (br_t rfl ?_)
    by_cases q : v1 < 0
    · exact br_t q ⟨rfl, J⟩
    · exact br_f q (br_f (fun z => absurd (Int32.le_trans h z) (by decide)) ⟨rfl, J⟩)
  · obtain ⟨o, ho, hw⟩ := L j hj
    refine gx_m1 hj (br_f (by decide) ⟨vp_in_nI hj (by omega), br_f (nI_pos (by omega)) (br_t (nI_le (b := 3) (by omega) (by decide)) ?_)⟩)
    rw [nI_clamp (by omega), ho]
    refine gy_lo i48 hj S2.1 Iv.2.2.1 (fun o1 h1 => ?_)
    rw [gm_own_uni h1 hw]
    cases o with
    | none => exact br_f (by decide) ⟨rfl, J⟩
    | some p =>
      have hp : p < n := hw.1
      refine br_t (nI_pos' (by omega)) (gy_lo i48 hj S2.1 Iv.2.2.1 (fun o2 h2 => ?_))
      rw [gm_own_uni h2 hw]
      exact ⟨rfl, J⟩
theorem i_vc_under {k : Nat} {u : SX} {v : SY} (I : i_Rel k u v) (hk : k + 5 ≤ 2560) (v1 : Int32) (v2 : Int32) : wpX_under (fun r => wpY_under (fun r' => r' = r ∧ i_Rel (k + 5) u v) v v1 v2) u v1 v2 := by
  have J : i_Rel (k + 5) u v := I
  obtain ⟨D, n, g, Iv, hX, hY⟩ := I
  have J' : ∀ v' : SY, gy_R D n g v' → i_Rel (k + 5) u v' := fun v' h => ⟨D, n, g, Iv, hX, h⟩
  have i48 := Iv.1
  have ig := Iv.2.1
  obtain ⟨en, gr, st, oc, yv, mk, tm, cn, us, ws, rd, wi, vf, fa, de, rc, fi, ev, pl, la, so⟩ := u
  obtain ⟨ct, gt, sr, oy, my, mk2, tm2, cn2, us2, ws2, rd2, wi2, vt, fm, dc, ry, fy, od, sy⟩ := v
  obtain ⟨rfl, rfl, S, V, L, w1, rfl, w3, rfl, w5, w6⟩ := hX
  obtain ⟨rfl, rfl, S2⟩ := hY
  unfold wpX_under wpY_under
  have bad1 : v1 < 0 ∨ nI n ≤ v1 ∨ ∃ j : Nat, j < n ∧ v1 = nI j := pk_ix v1 (by omega)
  have bad2 : v2 < 0 ∨ nI n ≤ v2 ∨ ∃ j : Nat, j < n ∧ v2 = nI j := pk_ix v2 (by omega)
  rw [← or_assoc] at bad1 bad2
  rcases bad1 with h | ⟨x, hx, rfl⟩
  · exact gx_g0 h (br_t rfl (gy_b1 h (br_f (by decide) ⟨rfl, J⟩)))
  · refine gx_g1 hx i48 (br_f (by decide) ?_)
    rcases bad2 with h | ⟨y, hy, rfl⟩
    · exact gx_g0 h (br_t rfl (gy_b0 hx i48 (br_t rfl (gy_b1 h (br_f (by decide) ⟨rfl, J⟩)))))
    · refine gx_g1 hy i48 (br_f (by decide) (gx_un (by omega) (by omega) ?_))
      have e1 := S.2.2.2.1
      have e2 := S2.2.2.2.1
      subst e1 e2
      have c : (nI y).toNatClampNeg = y := nI_clamp (by omega)
      refine gd_br (fun e => gy_b0 hx i48 (br_t rfl (gy_b0 hy i48 (br_t rfl ⟨vp_in_nI (by omega) (by omega), gy_has (by omega) (gd_br (fun e2 => ⟨rfl, J⟩) (fun e2 => ?_))⟩)))) (fun e => gy_b0 hx i48 (br_t rfl (gy_b0 hy i48 (br_t rfl ⟨vp_in_nI (by omega) (by omega), gy_has (by omega) (gd_br (fun e2 => ?_) (fun e2 => ⟨rfl, J⟩))⟩))))
      · rw [c, e] at e2; cases e2
      · rw [c, e] at e2; cases e2
theorem i_vc_wellUnder {k : Nat} {u : SX} {v : SY} (I : i_Rel k u v) (hk : k + 5 ≤ 2560) (v1 : Int32) (v2 : Int32) : wpX_wellUnder (fun r => wpY_wellUnder (fun r' => r' = r ∧ i_Rel (k + 5) u v) v v1 v2) u v1 v2 := by
  have J : i_Rel (k + 5) u v := I
  obtain ⟨D, n, g, Iv, hX, hY⟩ := I
  have J' : ∀ v' : SY, gy_R D n g v' → i_Rel (k + 5) u v' := fun v' h => ⟨D, n, g, Iv, hX, h⟩
  have i48 := Iv.1
  have ig := Iv.2.1
  obtain ⟨en, gr, st, oc, yv, mk, tm, cn, us, ws, rd, wi, vf, fa, de, rc, fi, ev, pl, la, so⟩ := u
  obtain ⟨ct, gt, sr, oy, my, mk2, tm2, cn2, us2, ws2, rd2, wi2, vt, fm, dc, ry, fy, od, sy⟩ := v
  obtain ⟨rfl, rfl, S, V, L, w1, rfl, w3, rfl, w5, w6⟩ := hX
  obtain ⟨rfl, rfl, S2⟩ := hY
  unfold wpX_wellUnder wpY_wellUnder
  have bad1 : v1 < 0 ∨ nI n ≤ v1 ∨ ∃ j : Nat, j < n ∧ v1 = nI j := pk_ix v1 (by omega)
  have bad2 : v2 < 0 ∨ nI n ≤ v2 ∨ ∃ j : Nat, j < n ∧ v2 = nI j := pk_ix v2 (by omega)
  rw [← or_assoc] at bad1 bad2
  rcases bad1 with h | ⟨x, hx, rfl⟩
  · exact gx_g0 h (br_t rfl (gy_b1 h (br_f (by decide) ⟨rfl, J⟩)))
  · refine gx_g1 hx i48 (br_f (by decide) ?_)
    rcases bad2 with h | ⟨y, hy, rfl⟩
    · exact gx_g0 h (br_t rfl (gy_b0 hx i48 (br_t rfl (gy_b1 h (br_f (by decide) ⟨rfl, J⟩)))))
    · refine gx_g1 hy i48 (br_f (by decide) (gx_wu (by omega) (by omega) ?_))
      have e1 := S.2.2.2.2.1
      have e2 := S2.2.2.2.2.1
      subst e1 e2
      have c : (nI y).toNatClampNeg = y := nI_clamp (by omega)
      refine gd_br (fun e => gy_b0 hx i48 (br_t rfl (gy_b0 hy i48 (br_t rfl ⟨vp_in_nI (by omega) (by omega), gy_has (by omega) (gd_br (fun e2 => ⟨rfl, J⟩) (fun e2 => ?_))⟩)))) (fun e => gy_b0 hx i48 (br_t rfl (gy_b0 hy i48 (br_t rfl ⟨vp_in_nI (by omega) (by omega), gy_has (by omega) (gd_br (fun e2 => ?_) (fun e2 => ⟨rfl, J⟩))⟩))))
      · rw [c, e] at e2; cases e2
      · rw [c, e] at e2; cases e2
theorem i_vc_round {k : Nat} {u : SX} {v : SY} (I : i_Rel k u v) (hk : k + 5 ≤ 2560) (v1 : Int32) : wpX_round (fun r => wpY_round (fun r' => r' = r ∧ i_Rel (k + 5) u v) v v1) u v1 := by
  have J : i_Rel (k + 5) u v := I
  obtain ⟨D, n, g, Iv, hX, hY⟩ := I
  have J' : ∀ v' : SY, gy_R D n g v' → i_Rel (k + 5) u v' := fun v' h => ⟨D, n, g, Iv, hX, h⟩
  have i48 := Iv.1
  have ig := Iv.2.1
  obtain ⟨en, gr, st, oc, yv, mk, tm, cn, us, ws, rd, wi, vf, fa, de, rc, fi, ev, pl, la, so⟩ := u
  obtain ⟨ct, gt, sr, oy, my, mk2, tm2, cn2, us2, ws2, rd2, wi2, vt, fm, dc, ry, fy, od, sy⟩ := v
  obtain ⟨rfl, rfl, S, V, L, w1, rfl, w3, rfl, w5, w6⟩ := hX
  obtain ⟨rfl, rfl, S2⟩ := hY
  unfold wpX_round wpY_round
  have bad1 : v1 < 0 ∨ nI n ≤ v1 ∨ ∃ j : Nat, j < n ∧ v1 = nI j := pk_ix v1 (by omega)
  rw [← or_assoc] at bad1
  rcases bad1 with h | ⟨x, hx, rfl⟩
  · exact gx_g0 h (br_t rfl (gy_b1 h (br_f (by decide) ⟨rfl, J⟩)))
  · refine gx_g1 hx i48 (br_f (by decide) ⟨vp_in_nI (by omega) (by omega), gy_b0 hx i48 (br_t rfl ⟨vp_in_nI (by omega) (by omega), ?_, J⟩)⟩)
    rw [S.2.2.2.2.2.1, S2.2.2.2.2.2.1]
theorem i_vc_witness {k : Nat} {u : SX} {v : SY} (I : i_Rel k u v) (hk : k + 5 ≤ 2560) (v1 : Int32) : wpX_witness (fun r => wpY_witness (fun r' => r' = r ∧ i_Rel (k + 5) u v) v v1) u v1 := by
  have J : i_Rel (k + 5) u v := I
  obtain ⟨D, n, g, Iv, hX, hY⟩ := I
  have J' : ∀ v' : SY, gy_R D n g v' → i_Rel (k + 5) u v' := fun v' h => ⟨D, n, g, Iv, hX, h⟩
  have i48 := Iv.1
  have ig := Iv.2.1
  obtain ⟨en, gr, st, oc, yv, mk, tm, cn, us, ws, rd, wi, vf, fa, de, rc, fi, ev, pl, la, so⟩ := u
  obtain ⟨ct, gt, sr, oy, my, mk2, tm2, cn2, us2, ws2, rd2, wi2, vt, fm, dc, ry, fy, od, sy⟩ := v
  obtain ⟨rfl, rfl, S, V, L, w1, rfl, w3, rfl, w5, w6⟩ := hX
  obtain ⟨rfl, rfl, S2⟩ := hY
  unfold wpX_witness wpY_witness
  dsimp only
  have bad1 : v1 < 0 ∨ nI n ≤ v1 ∨ ∃ j : Nat, j < n ∧ v1 = nI j := pk_ix v1 (by omega)
  rw [← or_assoc] at bad1
  rcases bad1 with h | ⟨x, hx, rfl⟩
  · exact gx_g0 h (br_t rfl (gy_b1 h (br_f (by decide) ⟨rfl, J⟩)))
  · have v : vp_in (nI x) 48 := vp_in_nI (by omega) (by omega)
    refine gx_g1 hx i48 (br_f (by decide) ⟨v, ?_⟩)
    rw [S.2.2.2.2.2.2, S2.2.2.2.2.2.2]
    exact gd_br (fun e => gy_b0 hx i48 (br_t rfl ⟨v, gd_br (fun _ => ⟨rfl, J⟩) (fun e2 => by rw [e] at e2; cases e2)⟩)) (fun e => gy_b0 hx i48 (br_t rfl ⟨v, gd_br (fun e2 => by rw [e] at e2; cases e2) (fun _ => ⟨rfl, J⟩)⟩))
theorem i_vc_witnesses {k : Nat} {u : SX} {v : SY} (I : i_Rel k u v) (hk : k + 5 ≤ 2560) (v1 : Int32) : wpX_witnesses (fun r => wpY_witnesses (fun r' => r' = r ∧ i_Rel (k + 5) u v) v v1) u v1 := by
  have J : i_Rel (k + 5) u v := I
  obtain ⟨D, n, g, Iv, hX, hY⟩ := I
  have J' : ∀ v' : SY, gy_R D n g v' → i_Rel (k + 5) u v' := fun v' h => ⟨D, n, g, Iv, hX, h⟩
  have i48 := Iv.1
  have ig := Iv.2.1
  obtain ⟨en, gr, st, oc, yv, mk, tm, cn, us, ws, rd, wi, vf, fa, de, rc, fi, ev, pl, la, so⟩ := u
  obtain ⟨ct, gt, sr, oy, my, mk2, tm2, cn2, us2, ws2, rd2, wi2, vt, fm, dc, ry, fy, od, sy⟩ := v
  obtain ⟨rfl, rfl, S, V, L, w1, rfl, w3, rfl, w5, w6⟩ := hX
  obtain ⟨rfl, rfl, S2⟩ := hY
  exact ⟨n + 1, gx_ws4 i48 S.2.2.2.2.2.1 S.2.2.2.2.2.2 ⟨n + 1, gy_ws4 i48 S2.2.2.2.2.2.1 S2.2.2.2.2.2.2 ⟨rfl, J⟩ n 0 (n + 1) (by omega) (by omega)⟩ n 0 (n + 1) (by omega) (by omega)⟩
theorem i_vc_fame {k : Nat} {u : SX} {v : SY} (I : i_Rel k u v) (hk : k + 5 ≤ 2560) (v1 : Int32) : wpX_fame (fun r => wpY_fame (fun r' v' => r' = r ∧ i_Rel (k + 5) u v') v v1) u v1 := by
  have J : i_Rel (k + 5) u v := I
  obtain ⟨D, n, g, Iv, hX, hY⟩ := I
  have J' : ∀ v' : SY, gy_R D n g v' → i_Rel (k + 5) u v' := fun v' h => ⟨D, n, g, Iv, hX, h⟩
  have i48 := Iv.1
  have ig := Iv.2.1
  obtain ⟨en, gr, st, oc, yv, mk, tm, cn, us, ws, rd, wi, vf, fa, de, rc, fi, ev, pl, la, so⟩ := u
  obtain ⟨ct, gt, sr, oy, my, mk2, tm2, cn2, us2, ws2, rd2, wi2, vt, fm, dc, ry, fy, od, sy⟩ := v
  obtain ⟨rfl, rfl, S, V, L, w1, rfl, w3, rfl, w5, w6⟩ := hX
  obtain ⟨rfl, rfl, S2⟩ := hY
  unfold wpX_fame wpY_fame
  dsimp only
  have bad1 : v1 < 0 ∨ nI n ≤ v1 ∨ ∃ j : Nat, j < n ∧ v1 = nI j := pk_ix v1 (by omega)
  rw [← or_assoc] at bad1
  rcases bad1 with h | ⟨x, hx, rfl⟩
  · exact gx_g0 h (br_t rfl (gy_b1 h (br_f (by decide) ⟨rfl, J⟩)))
  · have v : vp_in (nI x) 48 := vp_in_nI (by omega) (by omega)
    have c : (nI x).toNatClampNeg = x := nI_clamp (by omega)
    refine gx_g1 hx i48 (br_f (by decide) ⟨v, ?_⟩)
    rw [c, S.2.2.2.2.2.2, S2.2.2.2.2.2.2, (w1 x hx).1]
    refine gd_br (fun e => gy_b0 hx i48 (br_t rfl ⟨v, gd_br (fun _ => ⟨rfl, J⟩) (fun e2 => by rw [e] at e2; cases e2)⟩)) (fun e => ⟨v, gy_b0 hx i48 (br_t rfl ⟨v, gd_br (fun e2 => by rw [e] at e2; cases e2) (fun _ => ?_)⟩)⟩)
    refine gy_as Iv S2 hx (fun vt' fm' dc' a1 a2 a3 => ⟨v, ?_, J' _ ⟨rfl, rfl, S2⟩⟩)
    refine a2.trans ?_
    unfold gf_F
    rw [if_pos e]
theorem i_vc_decider {k : Nat} {u : SX} {v : SY} (I : i_Rel k u v) (hk : k + 5 ≤ 2560) (v1 : Int32) : wpX_decider (fun r => wpY_decider (fun r' v' => r' = r ∧ i_Rel (k + 5) u v') v v1) u v1 := by
  have J : i_Rel (k + 5) u v := I
  obtain ⟨D, n, g, Iv, hX, hY⟩ := I
  have J' : ∀ v' : SY, gy_R D n g v' → i_Rel (k + 5) u v' := fun v' h => ⟨D, n, g, Iv, hX, h⟩
  have i48 := Iv.1
  have ig := Iv.2.1
  obtain ⟨en, gr, st, oc, yv, mk, tm, cn, us, ws, rd, wi, vf, fa, de, rc, fi, ev, pl, la, so⟩ := u
  obtain ⟨ct, gt, sr, oy, my, mk2, tm2, cn2, us2, ws2, rd2, wi2, vt, fm, dc, ry, fy, od, sy⟩ := v
  obtain ⟨rfl, rfl, S, V, L, w1, rfl, w3, rfl, w5, w6⟩ := hX
  obtain ⟨rfl, rfl, S2⟩ := hY
  unfold wpX_decider wpY_decider
  dsimp only
  have bad1 : v1 < 0 ∨ nI n ≤ v1 ∨ ∃ j : Nat, j < n ∧ v1 = nI j := pk_ix v1 (by omega)
  rw [← or_assoc] at bad1
  rcases bad1 with h | ⟨x, hx, rfl⟩
  · exact gx_g0 h (br_t rfl (gy_b1 h (br_f (by decide) ⟨rfl, J⟩)))
  · have v : vp_in (nI x) 48 := vp_in_nI (by omega) (by omega)
    have c : (nI x).toNatClampNeg = x := nI_clamp (by omega)
    refine gx_g1 hx i48 (br_f (by decide) ⟨v, ?_⟩)
    rw [c, S.2.2.2.2.2.2, S2.2.2.2.2.2.2, (w1 x hx).2]
    refine gd_br (fun e => gy_b0 hx i48 (br_t rfl ⟨v, gd_br (fun _ => ⟨rfl, J⟩) (fun e2 => by rw [e] at e2; cases e2)⟩)) (fun e => ⟨v, gy_b0 hx i48 (br_t rfl ⟨v, gd_br (fun e2 => by rw [e] at e2; cases e2) (fun _ => ?_)⟩)⟩)
    refine gy_as Iv S2 hx (fun vt' fm' dc' a1 a2 a3 => ⟨v, ?_⟩)
    dsimp only
    rw [a3]
    unfold gf_d
    rw [if_pos e]
    cases hd : gf_de D n g x with
    | none => exact br_f (by decide) ⟨rfl, J' _ ⟨rfl, rfl, S2⟩⟩
    | some d =>
      have := gf_out_lt _ hd
      exact br_t (nI_pos' (by omega)) ⟨v, rfl, J' _ ⟨rfl, rfl, S2⟩⟩
