/-! ===== the owed statements: what is worked out ===== -/
theorem i_vc_settled {k : Nat} {u : SX} {v : SY} (I : i_Rel k u v) (hk : k + 5 ≤ 2560) : wpX_settled (fun r => wpY_settled (fun r' v' => r' = r ∧ i_Rel (k + 5) u v') v) u := by
  have J : i_Rel (k + 5) u v := I
  obtain ⟨D, n, g, Iv, hX, hY⟩ := I
  have J' : ∀ v' : SY, gy_R D n g v' → i_Rel (k + 5) u v' := fun v' h => ⟨D, n, g, Iv, hX, h⟩
  have i48 := Iv.1
  have ig := Iv.2.1
  obtain ⟨en, gr, st, oc, yv, mk, tm, cn, us, ws, rd, wi, vf, fa, de, rc, fi, ev, pl, la, so⟩ := u
  obtain ⟨ct, gt, sr, oy, my, mk2, tm2, cn2, us2, ws2, rd2, wi2, vt, fm, dc, ry, fy, od, sy⟩ := v
  obtain ⟨rfl, rfl, S, V, L, w1, rfl, w3, rfl, w5, w6⟩ := hX
  obtain ⟨rfl, rfl, S2⟩ := hY
  unfold wpX_settled wpY_settled
  exact gy_wk Iv S2 (fun my' vt' fm' dc' ry' fy' od' sy' a b => ⟨rfl, J' _ ⟨rfl, rfl, S2⟩⟩)
theorem i_vc_received {k : Nat} {u : SX} {v : SY} (I : i_Rel k u v) (hk : k + 5 ≤ 2560) (v1 : Int32) : wpX_received (fun r => wpY_received (fun r' v' => r' = r ∧ i_Rel (k + 5) u v') v v1) u v1 := by
  have J : i_Rel (k + 5) u v := I
  obtain ⟨D, n, g, Iv, hX, hY⟩ := I
  have J' : ∀ v' : SY, gy_R D n g v' → i_Rel (k + 5) u v' := fun v' h => ⟨D, n, g, Iv, hX, h⟩
  have i48 := Iv.1
  have ig := Iv.2.1
  obtain ⟨en, gr, st, oc, yv, mk, tm, cn, us, ws, rd, wi, vf, fa, de, rc, fi, ev, pl, la, so⟩ := u
  obtain ⟨ct, gt, sr, oy, my, mk2, tm2, cn2, us2, ws2, rd2, wi2, vt, fm, dc, ry, fy, od, sy⟩ := v
  obtain ⟨rfl, rfl, S, V, L, w1, rfl, w3, rfl, w5, w6⟩ := hX
  obtain ⟨rfl, rfl, S2⟩ := hY
  unfold wpX_received wpY_received
  dsimp only
  have bad1 : v1 < 0 ∨ nI n ≤ v1 ∨ ∃ j : Nat, j < n ∧ v1 = nI j := pk_ix v1 (by omega)
  rw [← or_assoc] at bad1
  rcases bad1 with h | ⟨x, hx, rfl⟩
  · exact gx_g0 h (br_t rfl (gy_b1 h (br_f (by decide) ⟨rfl, J⟩)))
  · have v : vp_in (nI x) 48 := vp_in_nI (by omega) (by omega)
    have c : (nI x).toNatClampNeg = x := nI_clamp (by omega)
    have iR := gr_R_le D n g x
    have iS := gs_S_le D n g
    refine gx_g1 hx i48 (br_f (by decide) ⟨v, ?_⟩)
    rw [c, (w3 x hx).1]
    refine gy_b0 hx i48 (br_t rfl (gy_wk Iv S2 (fun my' vt' fm' dc' ry' fy' od' sy' a b => ⟨v, ?_⟩)))
    dsimp only
    rw [(a x hx).1]
    refine pk_eq (gr_R D n g x) 0 (fun e => ⟨?_, J' _ ⟨rfl, rfl, S2⟩⟩) (fun e => ⟨v, ?_, J' _ ⟨rfl, rfl, S2⟩⟩)
    · rw [e]; rfl
    · exact (gx_rcN e).symm
theorem i_vc_finalTime {k : Nat} {u : SX} {v : SY} (I : i_Rel k u v) (hk : k + 5 ≤ 2560) (v1 : Int32) : wpX_finalTime (fun r => wpY_finalTime (fun r' v' => r' = r ∧ i_Rel (k + 5) u v') v v1) u v1 := by
  have J : i_Rel (k + 5) u v := I
  obtain ⟨D, n, g, Iv, hX, hY⟩ := I
  have J' : ∀ v' : SY, gy_R D n g v' → i_Rel (k + 5) u v' := fun v' h => ⟨D, n, g, Iv, hX, h⟩
  have i48 := Iv.1
  have ig := Iv.2.1
  obtain ⟨en, gr, st, oc, yv, mk, tm, cn, us, ws, rd, wi, vf, fa, de, rc, fi, ev, pl, la, so⟩ := u
  obtain ⟨ct, gt, sr, oy, my, mk2, tm2, cn2, us2, ws2, rd2, wi2, vt, fm, dc, ry, fy, od, sy⟩ := v
  obtain ⟨rfl, rfl, S, V, L, w1, rfl, w3, rfl, w5, w6⟩ := hX
  obtain ⟨rfl, rfl, S2⟩ := hY
  unfold wpX_finalTime wpY_finalTime
  dsimp only
  have bad1 : v1 < 0 ∨ nI n ≤ v1 ∨ ∃ j : Nat, j < n ∧ v1 = nI j := pk_ix v1 (by omega)
  rw [← or_assoc] at bad1
  rcases bad1 with h | ⟨x, hx, rfl⟩
  · exact gx_g0 h (br_t rfl (gy_b1 h (br_f (by decide) ⟨rfl, J⟩)))
  · have v : vp_in (nI x) 48 := vp_in_nI (by omega) (by omega)
    have c : (nI x).toNatClampNeg = x := nI_clamp (by omega)
    have iR := gr_R_le D n g x
    have iS := gs_S_le D n g
    refine gx_g1 hx i48 (br_f (by decide) (gx_ir (R := gr_R D n g x) (by omega) (by omega) (w3 x hx).1 (fun e => br_t rfl (gy_b0 hx i48 (br_t rfl (gy_wk Iv S2 (fun my' vt' fm' dc' ry' fy' od' sy' a b => ⟨v, ?_, J' _ ⟨rfl, rfl, S2⟩⟩))))) (fun e => br_f (by decide) ⟨v, gy_b0 hx i48 (br_t rfl (gy_wk Iv S2 (fun my' vt' fm' dc' ry' fy' od' sy' a b => ⟨v, ?_, J' _ ⟨rfl, rfl, S2⟩⟩)))⟩)))
    · show fy' (nI x).toNatClampNeg = 0
      rw [c, (a x hx).2]
      exact if_pos e
    · show fy' (nI x).toNatClampNeg = fi (nI x).toNatClampNeg
      rw [c, (a x hx).2, (w3 x hx).2 e]
      exact if_neg e
theorem i_vc_ordered {k : Nat} {u : SX} {v : SY} (I : i_Rel k u v) (hk : k + 5 ≤ 2560) : wpX_ordered (fun r => wpY_ordered (fun r' v' => r' = r ∧ i_Rel (k + 5) u v') v) u := by
  have J : i_Rel (k + 5) u v := I
  obtain ⟨D, n, g, Iv, hX, hY⟩ := I
  have J' : ∀ v' : SY, gy_R D n g v' → i_Rel (k + 5) u v' := fun v' h => ⟨D, n, g, Iv, hX, h⟩
  have i48 := Iv.1
  have ig := Iv.2.1
  obtain ⟨en, gr, st, oc, yv, mk, tm, cn, us, ws, rd, wi, vf, fa, de, rc, fi, ev, pl, la, so⟩ := u
  obtain ⟨ct, gt, sr, oy, my, mk2, tm2, cn2, us2, ws2, rd2, wi2, vt, fm, dc, ry, fy, od, sy⟩ := v
  obtain ⟨rfl, rfl, S, V, L, w1, rfl, w3, rfl, w5, w6⟩ := hX
  obtain ⟨rfl, rfl, S2⟩ := hY
  unfold wpX_ordered wpY_ordered
  exact gy_wk Iv S2 (fun my' vt' fm' dc' ry' fy' od' sy' a b => ⟨rfl, J' _ ⟨rfl, rfl, S2⟩⟩)
theorem i_vc_orderAt {k : Nat} {u : SX} {v : SY} (I : i_Rel k u v) (hk : k + 5 ≤ 2560) (v1 : Int32) : wpX_orderAt (fun r => wpY_orderAt (fun r' v' => r' = r ∧ i_Rel (k + 5) u v') v v1) u v1 := by
  have J : i_Rel (k + 5) u v := I
  obtain ⟨D, n, g, Iv, hX, hY⟩ := I
  have J' : ∀ v' : SY, gy_R D n g v' → i_Rel (k + 5) u v' := fun v' h => ⟨D, n, g, Iv, hX, h⟩
  have i48 := Iv.1
  have ig := Iv.2.1
  obtain ⟨en, gr, st, oc, yv, mk, tm, cn, us, ws, rd, wi, vf, fa, de, rc, fi, ev, pl, la, so⟩ := u
  obtain ⟨ct, gt, sr, oy, my, mk2, tm2, cn2, us2, ws2, rd2, wi2, vt, fm, dc, ry, fy, od, sy⟩ := v
  obtain ⟨rfl, rfl, S, V, L, w1, rfl, w3, rfl, w5, w6⟩ := hX
  obtain ⟨rfl, rfl, S2⟩ := hY
  unfold wpX_orderAt wpY_orderAt
  dsimp only
  have o1 := (go_is (gr_R D n g) (go_fn D n g) n).1
  have o1 : (go_O D n g).1 ≤ n := o1
  by_cases q : v1 < 0
  · exact br_t q (gy_wk Iv S2 (fun my' vt' fm' dc' ry' fy' od' sy' a b => br_t q ⟨rfl, J' _ ⟨rfl, rfl, S2⟩⟩))
  · refine br_f q ?_
    rcases pk_ix v1 (n := (go_O D n g).1) (by omega) with h | h | ⟨j, hj, rfl⟩
    · exact absurd h q
    · exact br_t h (gy_wk Iv S2 (fun my' vt' fm' dc' ry' fy' od' sy' a b => br_f q (br_f (Int32.not_lt.mpr h) ⟨rfl, J' _ ⟨rfl, rfl, S2⟩⟩)))
    · have v : vp_in (nI j) 48 := vp_in_nI (by omega) (by omega)
      have c : (nI j).toNatClampNeg = j := nI_clamp (by omega)
      refine br_f (nI_ge hj (by omega)) ⟨v, gy_wk Iv S2 (fun my' vt' fm' dc' ry' fy' od' sy' a b => br_f q (br_t (nI_lt hj (by omega)) ⟨v, ?_, J' _ ⟨rfl, rfl, S2⟩⟩))⟩
      show od' (nI j).toNatClampNeg = ev (nI j).toNatClampNeg
      rw [c, w5 j hj, b j hj]
theorem i_vc_placeOf {k : Nat} {u : SX} {v : SY} (I : i_Rel k u v) (hk : k + 5 ≤ 2560) (v1 : Int32) : wpX_placeOf (fun r => wpY_placeOf (fun r' v' => r' = r ∧ i_Rel (k + 5) u v') v v1) u v1 := by
  have J : i_Rel (k + 5) u v := I
  obtain ⟨D, n, g, Iv, hX, hY⟩ := I
  have J' : ∀ v' : SY, gy_R D n g v' → i_Rel (k + 5) u v' := fun v' h => ⟨D, n, g, Iv, hX, h⟩
  have i48 := Iv.1
  have ig := Iv.2.1
  obtain ⟨en, gr, st, oc, yv, mk, tm, cn, us, ws, rd, wi, vf, fa, de, rc, fi, ev, pl, la, so⟩ := u
  obtain ⟨ct, gt, sr, oy, my, mk2, tm2, cn2, us2, ws2, rd2, wi2, vt, fm, dc, ry, fy, od, sy⟩ := v
  obtain ⟨rfl, rfl, S, V, L, w1, rfl, w3, rfl, w5, w6⟩ := hX
  obtain ⟨rfl, rfl, S2⟩ := hY
  unfold wpX_placeOf wpY_placeOf
  dsimp only
  obtain ⟨o1, o2, o3, o4⟩ := go_is (gr_R D n g) (go_fn D n g) n
  have o1 : (go_O D n g).1 ≤ n := o1
  have oF : ∀ j, j < (go_O D n g).1 → (go_O D n g).2 j < 48 := fun j hj => by have : (go_O D n g).2 j < n := (o2 j hj).1; omega
  have bad1 : v1 < 0 ∨ nI n ≤ v1 ∨ ∃ j : Nat, j < n ∧ v1 = nI j := pk_ix v1 (by omega)
  rw [← or_assoc] at bad1
  rcases bad1 with h | ⟨x, hx, rfl⟩
  · exact gx_g0 h (br_t rfl (gy_b1 h (br_f (by decide) ⟨rfl, J⟩)))
  · have v : vp_in (nI x) 48 := vp_in_nI (by omega) (by omega)
    have c : (nI x).toNatClampNeg = x := nI_clamp (by omega)
    have iR := gr_R_le D n g x
    have iS := gs_S_le D n g
    refine gx_g1 hx i48 (br_f (by decide) (gx_ir (R := gr_R D n g x) (by omega) (by omega) (w3 x hx).1 (fun e => br_t rfl (gy_b0 hx i48 (br_t rfl (gy_wk Iv S2 (fun my' vt' fm' dc' ry' fy' od' sy' a b => ⟨(go_O D n g).1 + 1, ?_⟩))))) (fun e => br_f (by decide) ⟨v, gy_b0 hx i48 (br_t rfl (gy_wk Iv S2 (fun my' vt' fm' dc' ry' fy' od' sy' a b => ⟨(go_O D n g).1 + 1, ?_⟩)))⟩)))
    · refine gy_pl16 (F := (go_O D n g).2) (by omega) (by omega) oF b (fun _ => ⟨rfl, J' _ ⟨rfl, rfl, S2⟩⟩) (fun j hj hF => ?_) (go_O D n g).1 0 ((go_O D n g).1 + 1) (by omega) (by omega) (fun j hj => absurd hj (by omega))
      have : gr_R D n g ((go_O D n g).2 j) ≠ 0 := (o2 j hj).2
      rw [hF] at this
      exact absurd e this
    · refine gy_pl16 (F := (go_O D n g).2) (by omega) (by omega) oF b (fun hno => ?_) (fun j hj hF => ⟨?_, J' _ ⟨rfl, rfl, S2⟩⟩) (go_O D n g).1 0 ((go_O D n g).1 + 1) (by omega) (by omega) (fun j hj => absurd hj (by omega))
      · obtain ⟨j, hj, ej⟩ := o4 x hx e
        exact absurd ej (hno j hj)
      · rw [c, ← hF, w6 j hj]
theorem i_vc_digest {k : Nat} {u : SX} {v : SY} (I : i_Rel k u v) (hk : k + 5 ≤ 2560) : wpX_digest (fun r => wpY_digest (fun r' v' => r' = r ∧ i_Rel (k + 5) u v') v) u := by
  have J : i_Rel (k + 5) u v := I
  obtain ⟨D, n, g, Iv, hX, hY⟩ := I
  have J' : ∀ v' : SY, gy_R D n g v' → i_Rel (k + 5) u v' := fun v' h => ⟨D, n, g, Iv, hX, h⟩
  have i48 := Iv.1
  have ig := Iv.2.1
  obtain ⟨en, gr, st, oc, yv, mk, tm, cn, us, ws, rd, wi, vf, fa, de, rc, fi, ev, pl, la, so⟩ := u
  obtain ⟨ct, gt, sr, oy, my, mk2, tm2, cn2, us2, ws2, rd2, wi2, vt, fm, dc, ry, fy, od, sy⟩ := v
  obtain ⟨rfl, rfl, S, V, L, w1, rfl, w3, rfl, w5, w6⟩ := hX
  obtain ⟨rfl, rfl, S2⟩ := hY
  have o1 := (go_is (gr_R D n g) (go_fn D n g) n).1
  have o1 : (go_O D n g).1 ≤ n := o1
  refine ⟨(go_O D n g).1 + 1, gx_di4 (by omega) ?_ (go_O D n g).1 0 ((go_O D n g).1 + 1) (by omega) (by omega)⟩
  unfold wpY_digest
  refine gy_wk Iv S2 (fun my' vt' fm' dc' ry' fy' od' sy' a b => ⟨(go_O D n g).1 + 1, gy_di8 (by omega) ⟨?_, J' _ ⟨rfl, rfl, S2⟩⟩ (go_O D n g).1 0 ((go_O D n g).1 + 1) (by omega) (by omega)⟩)
  exact gg_congr fun j hj => (b j hj).trans (w5 j hj).symm
