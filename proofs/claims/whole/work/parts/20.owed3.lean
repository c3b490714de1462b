/-! ===== the owed statements: a new event ===== -/
section
variable {ct gt sr oy my : Int32} {mk tm cn : Nat → Int32} {us ws : Nat → Int64} {rd wi vt fm dc ry fy od sy : Nat → Int32}
theorem gy_me {post : Int32 → SY → Prop} {D : gd_D} {n g m : Nat} {o1 o2 : Option Nat} {t : Int32} {c : Bool} (Iv : gd_Inv D n g) (hn : n < 48) (hm : m < 4) (S : gx_S D mk tm cn us ws rd wi) (ho : gm_own D n m o1) (h2 : gm_lt n o2) (hno : o1 = none → o2 = none)
    (h : ∀ v', gy_R (gm_D D n m o1 o2 t c) (n + 1) (gm_g D n g m o1 o2) v' → post (nI n) v') : wpY_make post (nI n, nI g, sr, oy, my, mk, tm, cn, us, ws, rd, wi, vt, fm, dc, ry, fy, od, sy) (nI m) (gy_lv o1) (gy_lv o2) t (gd_bi c) :=
  gy_mk Iv hn hm S (gm_own_lt ho) h2 hno (h _ ⟨rfl, rfl, gx_S_make S⟩)
end
theorem i_vc_alone {k : Nat} {u : SX} {v : SY} (I : i_Rel k u v) (hk : k + 5 ≤ 2560) (v1 : Int32) (v2 : Int32) (v3 : Int32) : wpX_alone (fun r u' => wpY_alone (fun r' v' => r' = r ∧ i_Rel (k + 5) u' v') v v1 v2 (lw_bz v3)) u v1 v2 (lw_bz v3) := by
  have J : i_Rel (k + 5) u v := I
  obtain ⟨D, n, g, Iv, hX, hY⟩ := I
  have J' : ∀ v' : SY, gy_R D n g v' → i_Rel (k + 5) u v' := fun v' h => ⟨D, n, g, Iv, hX, h⟩
  have i48 := Iv.1
  have ig := Iv.2.1
  obtain ⟨en, gr, st, oc, yv, mk, tm, cn, us, ws, rd, wi, vf, fa, de, rc, fi, ev, pl, la, so⟩ := u
  obtain ⟨ct, gt, sr, oy, my, mk2, tm2, cn2, us2, ws2, rd2, wi2, vt, fm, dc, ry, fy, od, sy⟩ := v
  obtain ⟨rfl, rfl, S, V, L, w1, rfl, w3, rfl, w5, w6⟩ := hX
  obtain ⟨rfl, rfl, S2⟩ := hY
  rw [gd_bz]
  unfold wpX_alone wpY_alone
  dsimp only
  rcases pk_ix v1 (n := 4) (by omega) with h | h | ⟨m, hm, rfl⟩
  · exact gx_m0 (Or.inl h) (br_t rfl (br_t h ⟨rfl, J⟩))
  · refine gx_m0 (Or.inr h) (br_t rfl ?_)
    by_cases q : v1 < 0
    · exact br_t q ⟨rfl, J⟩
    · exact br_f q (br_f (fun z => absurd (Int32.le_trans h z) (by decide)) ⟨rfl, J⟩)
  · have a3 : nI m ≤ 3 := nI_le (b := 3) (by omega) (by decide)
    have a0 : ¬ nI m < 0 := nI_pos (by omega)
    refine gx_m1 hm (br_f (by decide) (pk_lt n 48 (fun hn => ?_) (fun hn => br_f a0 (br_t a3 (pk_eq n 48 (fun _ => ⟨rfl, J⟩) (fun e => absurd hn (by omega)))))))
    refine gx_me (o2 := none) Iv hn hm S V L trivial (fun o1 u' ho hR => ?_)
    obtain ⟨b1, b2, b3, b4, b5, b6, b7, b8, b9, b10, b11, b12, b13, b14, b15, b16, b17, b18, b19, b20, b21⟩ := u'
    dsimp only
    refine br_f a0 (br_t a3 (pk_eq n 48 (fun e => absurd hn (by omega)) (fun e => gy_lo i48 hm S2.1 Iv.2.2.1 (fun o h1 => ?_))))
    rw [gm_own_uni h1 ho]
    refine gy_me (o2 := none) Iv hn hm S2 ho trivial (fun _ => rfl) (fun v' hY => ?_)
    obtain ⟨c1, c2, c3, c4, c5, c6, c7, c8, c9, c10, c11, c12, c13, c14, c15, c16, c17, c18, c19⟩ := v'
    exact ⟨rfl, _, _, _, gm_inv (other := none) Iv hn hm ho trivial, hR, hY⟩
theorem i_vc_gossip {k : Nat} {u : SX} {v : SY} (I : i_Rel k u v) (hk : k + 5 ≤ 2560) (v1 : Int32) (v2 : Int32) (v3 : Int32) (v4 : Int32) : wpX_gossip (fun r u' => wpY_gossip (fun r' v' => r' = r ∧ i_Rel (k + 5) u' v') v v1 v2 v3 (lw_bz v4)) u v1 v2 v3 (lw_bz v4) := by
  have J : i_Rel (k + 5) u v := I
  obtain ⟨D, n, g, Iv, hX, hY⟩ := I
  have J' : ∀ v' : SY, gy_R D n g v' → i_Rel (k + 5) u v' := fun v' h => ⟨D, n, g, Iv, hX, h⟩
  have i48 := Iv.1
  have ig := Iv.2.1
  obtain ⟨en, gr, st, oc, yv, mk, tm, cn, us, ws, rd, wi, vf, fa, de, rc, fi, ev, pl, la, so⟩ := u
  obtain ⟨ct, gt, sr, oy, my, mk2, tm2, cn2, us2, ws2, rd2, wi2, vt, fm, dc, ry, fy, od, sy⟩ := v
  obtain ⟨rfl, rfl, S, V, L, w1, rfl, w3, rfl, w5, w6⟩ := hX
  obtain ⟨rfl, rfl, S2⟩ := hY
  rw [gd_bz]
  unfold wpX_gossip wpY_gossip
  dsimp only
  rcases pk_ix v1 (n := 4) (by omega) with h | h | ⟨m, hm, rfl⟩
  · exact gx_m0 (Or.inl h) (br_t rfl (br_t h ⟨rfl, J⟩))
  · refine gx_m0 (Or.inr h) (br_t rfl ?_)
    by_cases q : v1 < 0
    · exact br_t q ⟨rfl, J⟩
    · exact br_f q (br_t (Int32.lt_of_lt_of_le (by decide) h) ⟨rfl, J⟩)
  · have a3 : ¬ 3 < nI m := nI_nlt (a := 3) (by omega) (by decide)
    have a0 : ¬ nI m < 0 := nI_pos (by omega)
    refine gx_m1 hm (br_f (by decide) ?_)
    have bad2 : v2 < 0 ∨ nI n ≤ v2 ∨ ∃ j : Nat, j < n ∧ v2 = nI j := pk_ix v2 (by omega)
    rw [← or_assoc] at bad2
    rcases bad2 with h | ⟨p, hp, rfl⟩
    · exact gx_g0 h (br_t rfl (br_f a0 (br_f a3 (gy_b1 h (br_f (by decide) ⟨rfl, J⟩)))))
    · have vp : vp_in (nI p) 48 := vp_in_nI (by omega) (by omega)
      have vm : vp_in (nI m) 4 := vp_in_nI hm (by omega)
      have cp : (nI p).toNatClampNeg = p := nI_clamp (by omega)
      have cm : (nI m).toNatClampNeg = m := nI_clamp (by omega)
      have m4 := Iv.2.2.1 p
      obtain ⟨o, ho, hw⟩ := L m hm
      refine gx_g1 hp i48 (br_f (by decide) ⟨vp, ?_⟩)
      rw [cp, cm, S.1, S2.1, ho]
      refine pk_eq (gd_mk D p) m (fun e => br_f a0 (br_f a3 (gy_b0 hp i48 (br_t rfl ⟨vp, pk_eq (gd_mk D p) m (fun _ => ⟨rfl, J⟩) (fun q => absurd e q)⟩)))) (fun e => ⟨vm, ?_⟩)
      cases o with
      | none =>
        refine br_t rfl (br_f a0 (br_f a3 (gy_b0 hp i48 (br_t rfl ⟨vp, pk_eq (gd_mk D p) m (fun q => absurd q e) (fun _ => gy_lo i48 hm S2.1 Iv.2.2.1 (fun o' h1 => ?_))⟩))))
        rw [gm_own_uni h1 hw]
        exact br_f (by decide) ⟨rfl, J⟩
      | some o =>
        have hon : o < n := hw.1
        refine br_f (gd_ne2 (by omega)) (pk_lt n 48 (fun hn => ?_) (fun hn => ?_))
        · refine gx_me (o2 := some p) Iv hn hm S V L hp (fun o1 u' ho1 hR => ?_)
          rw [gm_own_uni ho1 hw] at hR
          obtain ⟨b1, b2, b3, b4, b5, b6, b7, b8, b9, b10, b11, b12, b13, b14, b15, b16, b17, b18, b19, b20, b21⟩ := u'
          dsimp only
          refine br_f a0 (br_f a3 (gy_b0 hp i48 (br_t rfl ⟨vp, pk_eq (gd_mk D p) m (fun q => absurd q e) (fun _ => gy_lo i48 hm S2.1 Iv.2.2.1 (fun o' h1 => ?_))⟩)))
          rw [gm_own_uni h1 hw]
          refine br_t (nI_pos' (by omega)) (pk_eq n 48 (fun z => absurd hn (by omega)) (fun _ => gy_lo i48 hm S2.1 Iv.2.2.1 (fun o'' h2 => ?_)))
          rw [gm_own_uni h2 hw]
          refine gy_me (o2 := some p) Iv hn hm S2 hw hp (fun z => by cases z) (fun v' hY => ?_)
          obtain ⟨c1, c2, c3, c4, c5, c6, c7, c8, c9, c10, c11, c12, c13, c14, c15, c16, c17, c18, c19⟩ := v'
          exact ⟨rfl, _, _, _, gm_inv (other := some p) Iv hn hm hw hp, hR, hY⟩
        · refine br_f a0 (br_f a3 (gy_b0 hp i48 (br_t rfl ⟨vp, pk_eq (gd_mk D p) m (fun q => absurd q e) (fun _ => gy_lo i48 hm S2.1 Iv.2.2.1 (fun o' h1 => ?_))⟩)))
          rw [gm_own_uni h1 hw]
          exact br_t (nI_pos' (by omega)) (pk_eq n 48 (fun _ => ⟨rfl, J⟩) (fun z => absurd hn (by omega)))
