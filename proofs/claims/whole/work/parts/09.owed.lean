/-! what is owed -/
theorem i_up {k : Nat} {u : SX} {v : SY} (h : i_Rel k u v) : i_Rel (k + 3) u v := h
theorem i_vc0 (k0 : Int32) (k1 : Int32) (k2 : Int32) : wpX_init (fun u => wpY_init (fun v => i_Rel 3 u v) k0 k1 k2) k0 k1 k2 := by
  obtain ⟨a, a0, a1, aX, aY⟩ := cd_clamp k0 (lo := 8) (hi := 32) (x := 8) (y := 32) rfl rfl (by decide) (by decide) (by decide)
  obtain ⟨b, b0, b1, bX, bY⟩ := cd_clamp k1 (lo := 8) (hi := 32) (x := 8) (y := 32) rfl rfl (by decide) (by decide) (by decide)
  obtain ⟨c, c0, c1, cX, cY⟩ := cd_clamp k2 (lo := 1) (hi := 3) (x := 1) (y := 3) rfl rfl (by decide) (by decide) (by decide)
  unfold wpX_init wpY_init
  refine aX _ (bX _ (cX _ ?_))
  refine ⟨by decide, nm_r (e' := 65536) (by decide) ⟨Nat.le_refl _, ?_⟩⟩
  refine aY (fun z => wY_init_63 (fun v => i_Rel 3 (nI a, nI b, nI c, 0, 0, 0, (fun _ => 0), (fun _ => 0), (fun _ => 0)) v) k1 k2 z 0 0 0 0 (fun _ => 0) (fun _ => 0) (fun _ => 0) (fun _ => 0) 65536) ?_
  refine bY (fun z => wY_init_90 (fun v => i_Rel 3 (nI a, nI b, nI c, 0, 0, 0, (fun _ => 0), (fun _ => 0), (fun _ => 0)) v) k2 z (nI a) 0 0 0 (fun _ => 0) (fun _ => 0) (fun _ => 0) (fun _ => 0) 65536) ?_
  refine cY (fun z => i_Rel 3 (nI a, nI b, nI c, 0, 0, 0, (fun _ => 0), (fun _ => 0), (fun _ => 0)) (nI a, nI b, z, 0, (fun _ => 0), (fun _ => 0), (fun _ => 0), (fun _ => 0), 65536)) ?_
  refine ⟨a, b, c, 0, fun _ => 0, fun _ => 0, fun _ => 0, fun _ => 0, fun _ => 0, ?_, rfl, a1, b1, c0, c1, cd_Rz (fun _ _ => rfl)⟩
  rw [cd_c0, cd_nz (C := fun _ => 0) (fun _ _ => rfl)]
  rfl
theorem i_vc_join {k : Nat} {u : SX} {v : SY} (I : i_Rel k u v) (hk : k + 3 ≤ 1539) (v1 : Int32) : wpX_join (fun r u' => wpY_join (fun r' v' => r' = r ∧ i_Rel (k + 3) u' v') v v1) u v1 := by
  obtain ⟨a, b, c, cr, lv, vx, C, vy, ho, rfl, rfl, ha, hb, hc0, hc, R⟩ := I
  have rel : i_Rel (k + 3) (nI a, nI b, nI c, nI (cd_c lv 0 256), nI (cd_n C 256), cr, lv, vx, fun j => nI (C j)) (nI a, nI b, nI c, cr, lv, (fun j => nI (cd_q (C j))), vy, ho, 65536) :=
    ⟨a, b, c, cr, lv, vx, C, vy, ho, rfl, rfl, ha, hb, hc0, hc, R⟩
  have cl := cd_cle lv 0 256
  have hC := cr_C R
  unfold wpX_join wpY_join
  dsimp only
  rcases cd_rg v1 with hx | ⟨j, hj, rfl⟩
  · exact cx_out hx (br_t rfl (cy_out hx (br_t rfl ⟨rfl, rel⟩)))
  · refine cx_in hj (br_f cd_one ?_)
    rw [cd_cl (by omega : j < 65536), cd_v1]
    refine ⟨cd_vi hj, ?_⟩
    by_cases z : lv j = 0
    · have e := cd_addN hj z
      have cl2 := cd_cle (upd lv j 1) 0 256
      refine br_t z (pk_eq (cd_c lv 0 256) a (fun q => ?_) (fun q => ?_))
      · exact cy_in hj (br_f cd_one ⟨cd_vi hj, br_t z (cy_count (br_t (congrArg nI q) ⟨rfl, rel⟩))⟩)
      · refine ⟨cd_vi hj, nm_e (nm_r (e' := nI (cd_c (upd lv j 1) 0 256)) (by rw [nI_1, e]) (cx_repair hc (by omega) hC (fun w => absurd w (by omega)) (fun w => ?_)))⟩
        refine cy_in hj (br_f cd_one ⟨cd_vi hj, br_t z (cy_count (br_f (fun y => q ((nI_eq (by omega) (by omega)).mp y)) ⟨cd_vi hj, nm_e (cy_repair hc (fun y => absurd y w) (fun _ => ?_))⟩))⟩)
        exact ⟨rfl, cr_rep ha hb hc0 hc w R.2.1⟩
    · exact br_f z (cy_in hj (br_f cd_one ⟨cd_vi hj, br_f z ⟨rfl, rel⟩⟩))
theorem i_vc_leave {k : Nat} {u : SX} {v : SY} (I : i_Rel k u v) (hk : k + 3 ≤ 1539) (v1 : Int32) : wpX_leave (fun r u' => wpY_leave (fun r' v' => r' = r ∧ i_Rel (k + 3) u' v') v v1) u v1 := by
  obtain ⟨a, b, c, cr, lv, vx, C, vy, ho, rfl, rfl, ha, hb, hc0, hc, R⟩ := I
  have rel : i_Rel (k + 3) (nI a, nI b, nI c, nI (cd_c lv 0 256), nI (cd_n C 256), cr, lv, vx, fun j => nI (C j)) (nI a, nI b, nI c, cr, lv, (fun j => nI (cd_q (C j))), vy, ho, 65536) :=
    ⟨a, b, c, cr, lv, vx, C, vy, ho, rfl, rfl, ha, hb, hc0, hc, R⟩
  have cl := cd_cle lv 0 256
  have hC := cr_C R
  unfold wpX_leave wpY_leave
  dsimp only
  rcases cd_rg v1 with hx | ⟨j, hj, rfl⟩
  · exact cx_out hx (br_t rfl (cy_out hx (br_t rfl ⟨rfl, rel⟩)))
  · refine cx_in hj (br_f cd_one ?_)
    rw [cd_cl (by omega : j < 65536), cd_v0]
    refine ⟨cd_vi hj, ?_⟩
    by_cases z : lv j = 0
    · exact br_t z (cy_in hj (br_f cd_one ⟨cd_vi hj, br_t z ⟨rfl, rel⟩⟩))
    · have e := cd_rmN hj z
      have cl2 := cd_cle (upd lv j 0) 0 256
      refine br_f z ⟨cd_vi hj, nm_e (nm_r (e' := nI (cd_c (upd lv j 0) 0 256)) (by rw [cd_p1 (by omega), e, Nat.add_sub_cancel]) (cx_repair hc (by omega) hC (fun w => ?_) (fun w => ?_)))⟩
      · refine cy_in hj (br_f cd_one ⟨cd_vi hj, br_f z ⟨cd_vi hj, nm_e (cy_repair hc (fun y va' ho' => ?_) (fun y => absurd w y))⟩⟩)
        exact ⟨rfl, cr_rep0 ha hb hc0 hc w⟩
      · refine cy_in hj (br_f cd_one ⟨cd_vi hj, br_f z ⟨cd_vi hj, nm_e (cy_repair hc (fun y => absurd y w) (fun y => ?_))⟩⟩)
        exact ⟨rfl, cr_rep ha hb hc0 hc w R.2.1⟩
theorem i_vc_crash {k : Nat} {u : SX} {v : SY} (I : i_Rel k u v) (hk : k + 3 ≤ 1539) (v1 : Int32) : wpX_crash (fun r u' => wpY_crash (fun r' v' => r' = r ∧ i_Rel (k + 3) u' v') v v1) u v1 := by
  obtain ⟨a, b, c, cr, lv, vx, C, vy, ho, rfl, rfl, ha, hb, hc0, hc, R⟩ := I
  have rel : i_Rel (k + 3) (nI a, nI b, nI c, nI (cd_c lv 0 256), nI (cd_n C 256), cr, lv, vx, fun j => nI (C j)) (nI a, nI b, nI c, cr, lv, (fun j => nI (cd_q (C j))), vy, ho, 65536) :=
    ⟨a, b, c, cr, lv, vx, C, vy, ho, rfl, rfl, ha, hb, hc0, hc, R⟩
  have cl := cd_cle lv 0 256
  have hC := cr_C R
  unfold wpX_crash wpY_crash
  dsimp only
  rcases cd_rg v1 with hx | ⟨j, hj, rfl⟩
  · exact cx_out hx (br_t rfl (cy_out hx (br_t rfl ⟨rfl, rel⟩)))
  · refine cx_in hj (br_f cd_one ?_)
    rw [cd_cl (by omega : j < 65536), cd_v0]
    refine ⟨cd_vi hj, ?_⟩
    by_cases z : lv j = 0
    · exact br_t z (cy_in hj (br_f cd_one ⟨cd_vi hj, br_t z ⟨rfl, rel⟩⟩))
    · refine br_f z (cx_drop hj hC ⟨cd_vi hj, nm_e (nm_e (nm_e (nm_e ?_)))⟩)
      refine cy_in hj (br_f cd_one ⟨cd_vi hj, br_f z ⟨cd_vi hj, nm_e (cy_crash hj z (fun i hi => Nat.le_trans (R.1 i hi) (Nat.min_le_right _ _)) R.2.2 (fun va' ho' J => ?_))⟩⟩)
      exact ⟨rfl, cr_crash hj z ha hb hc0 hc R J⟩
theorem i_vc_stabilise {k : Nat} {u : SX} {v : SY} (I : i_Rel k u v) (hk : k + 3 ≤ 1539) : wpX_stabilise (fun r u' => wpY_stabilise (fun r' v' => r' = r ∧ i_Rel (k + 3) u' v') v) u := by
  obtain ⟨a, b, c, cr, lv, vx, C, vy, ho, rfl, rfl, ha, hb, hc0, hc, R⟩ := I
  have rel : i_Rel (k + 3) (nI a, nI b, nI c, nI (cd_c lv 0 256), nI (cd_n C 256), cr, lv, vx, fun j => nI (C j)) (nI a, nI b, nI c, cr, lv, (fun j => nI (cd_q (C j))), vy, ho, 65536) :=
    ⟨a, b, c, cr, lv, vx, C, vy, ho, rfl, rfl, ha, hb, hc0, hc, R⟩
  have cl := cd_cle lv 0 256
  have hC := cr_C R
  unfold wpX_stabilise wpY_stabilise
  dsimp only
  refine cx_missing hc (by omega) R.1 (cx_repair hc (by omega) hC (fun w => ?_) (fun w => ?_))
  · refine cy_repair hc (fun y va' ho' => ⟨?_, cr_rep0 ha hb hc0 hc w⟩) (fun y => absurd w y)
    rw [cr_none R w]
    rfl
  · refine cy_repair hc (fun y => absurd y w) (fun y => ⟨?_, cr_rep ha hb hc0 hc w R.2.1⟩)
    rw [cr_created R]
theorem i_vc_put {k : Nat} {u : SX} {v : SY} (I : i_Rel k u v) (hk : k + 3 ≤ 1539) (v1 : Int32) (v2 : Int32) : wpX_put (fun r u' => wpY_put (fun r' v' => r' = r ∧ i_Rel (k + 3) u' v') v v1 v2) u v1 v2 := by
  obtain ⟨a, b, c, cr, lv, vx, C, vy, ho, rfl, rfl, ha, hb, hc0, hc, R⟩ := I
  have rel : i_Rel (k + 3) (nI a, nI b, nI c, nI (cd_c lv 0 256), nI (cd_n C 256), cr, lv, vx, fun j => nI (C j)) (nI a, nI b, nI c, cr, lv, (fun j => nI (cd_q (C j))), vy, ho, 65536) :=
    ⟨a, b, c, cr, lv, vx, C, vy, ho, rfl, rfl, ha, hb, hc0, hc, R⟩
  have cl := cd_cle lv 0 256
  have hC := cr_C R
  have nl := cd_nl C 256
  unfold wpX_put wpY_put
  dsimp only
  rcases cd_rg v1 with hx | ⟨j, hj, rfl⟩
  · exact cx_out hx (br_t rfl (cy_out hx (br_t rfl ⟨rfl, rel⟩)))
  · refine cx_in hj (br_f cd_one ?_)
    rw [cd_cl (by omega : j < 65536)]
    refine pk_eq (cd_c lv 0 256) 0 (fun w => ?_) (fun w => ?_)
    · exact cy_in hj (br_f cd_one (cy_count (br_t (congrArg nI w) ⟨rfl, rel⟩)))
    · have w2 : ¬ nI (cd_c lv 0 256) = 0 := nI_ne0 (by omega) (by omega)
      have nu := cd_nu (C := C) (k := j) (x := min c (cd_c lv 0 256)) hj
      have qm := cd_q1 (by omega : ¬ min c (cd_c lv 0 256) = 0)
      refine cx_isStored hj (hC j hj) (fun z => ?_) (fun z => ?_)
      · refine br_t rfl (pk_eq (cd_n C 256) b (fun q => ?_) (fun q => ?_))
        · exact cy_in hj (br_f cd_one (cy_count (br_f w2 ⟨cd_vi hj, br_t (cd_qI z) (cy_keyCount (br_t (congrArg nI q) ⟨rfl, rel⟩))⟩)))
        · have e : nI (cd_n C 256) + 1 = nI (cd_n (cd_u C j (min c (cd_c lv 0 256))) 256) := by
            have q0 := cd_q0 z
            rw [nI_1]
            exact congrArg nI (by omega)
          refine nm_r e (by
            unfold wX_put_51
            rw [cd_cl (by omega : j < 65536)]
            refine ⟨cd_vi hj, nm_e (cx_full hc (by omega) ⟨cd_vi hj, nm_e ?_⟩)⟩
            refine cy_in hj (br_f cd_one (cy_count (br_f w2 ⟨cd_vi hj, br_t (cd_qI z) (cy_keyCount (br_f (fun y => q ((nI_eq (by omega) (by omega)).mp y)) ?_))⟩)))
            unfold wY_put_43
            rw [cd_cl (by omega : j < 65536), cd_v1]
            refine ⟨cd_vi hj, nm_e ⟨cd_vi hj, nm_e (cy_setTop hj hc ?_)⟩⟩
            exact ⟨rfl, cr_put hj ha hb hc0 hc w R⟩)
      · have e : nI (cd_n C 256) = nI (cd_n (cd_u C j (min c (cd_c lv 0 256))) 256) := by
          have q0 := cd_q1 z
          exact congrArg nI (by omega)
        refine br_f cd_one ?_
        unfold wX_put_51
        rw [cd_cl (by omega : j < 65536)]
        refine ⟨cd_vi hj, nm_e (cx_full hc (by omega) ⟨cd_vi hj, nm_e ?_⟩)⟩
        refine cy_in hj (br_f cd_one (cy_count (br_f w2 ⟨cd_vi hj, br_f (cd_qJ z) ?_⟩)))
        unfold wY_put_43
        rw [cd_cl (by omega : j < 65536), cd_v1]
        refine ⟨cd_vi hj, nm_e ⟨cd_vi hj, nm_e (cy_setTop hj hc ?_)⟩⟩
        refine ⟨rfl, ?_⟩
        rw [e]
        exact cr_put hj ha hb hc0 hc w R
theorem i_vc_remove {k : Nat} {u : SX} {v : SY} (I : i_Rel k u v) (hk : k + 3 ≤ 1539) (v1 : Int32) : wpX_remove (fun r u' => wpY_remove (fun r' v' => r' = r ∧ i_Rel (k + 3) u' v') v v1) u v1 := by
  obtain ⟨a, b, c, cr, lv, vx, C, vy, ho, rfl, rfl, ha, hb, hc0, hc, R⟩ := I
  have rel : i_Rel (k + 3) (nI a, nI b, nI c, nI (cd_c lv 0 256), nI (cd_n C 256), cr, lv, vx, fun j => nI (C j)) (nI a, nI b, nI c, cr, lv, (fun j => nI (cd_q (C j))), vy, ho, 65536) :=
    ⟨a, b, c, cr, lv, vx, C, vy, ho, rfl, rfl, ha, hb, hc0, hc, R⟩
  have cl := cd_cle lv 0 256
  have hC := cr_C R
  unfold wpX_remove wpY_remove
  dsimp only
  rcases cd_rg v1 with hx | ⟨j, hj, rfl⟩
  · exact cx_out hx (br_t rfl (cy_out hx (br_t rfl ⟨rfl, rel⟩)))
  · refine cx_in hj (br_f cd_one (cx_isStored hj (hC j hj) (fun z => ?_) (fun z => ?_)))
    · rw [cd_cl (by omega : j < 65536)]
      exact br_t rfl (cy_in hj (br_f cd_one ⟨cd_vi hj, br_t (cd_qI z) ⟨rfl, rel⟩⟩))
    · rw [cd_cl (by omega : j < 65536)]
      refine br_f cd_one ⟨cd_vi hj, nm_e (nm_e ?_)⟩
      refine cy_in hj (br_f cd_one ⟨cd_vi hj, br_f (cd_qJ z) (cy_dropKey hj ?_)⟩)
      exact ⟨rfl, cr_rem hj ha hb hc0 hc z R⟩
theorem i_vc_isLive {k : Nat} {u : SX} {v : SY} (I : i_Rel k u v) (hk : k + 3 ≤ 1539) (v1 : Int32) : wpX_isLive (fun r => wpY_isLive (fun r' => r' = r ∧ i_Rel (k + 3) u v) v v1) u v1 := by
  obtain ⟨a, b, c, cr, lv, vx, C, vy, ho, rfl, rfl, ha, hb, hc0, hc, R⟩ := I
  have rel : i_Rel (k + 3) (nI a, nI b, nI c, nI (cd_c lv 0 256), nI (cd_n C 256), cr, lv, vx, fun j => nI (C j)) (nI a, nI b, nI c, cr, lv, (fun j => nI (cd_q (C j))), vy, ho, 65536) :=
    ⟨a, b, c, cr, lv, vx, C, vy, ho, rfl, rfl, ha, hb, hc0, hc, R⟩
  have cl := cd_cle lv 0 256
  have hC := cr_C R
  unfold wpX_isLive wpY_isLive
  dsimp only
  rcases cd_rg v1 with hx | ⟨j, hj, rfl⟩
  · exact cx_out hx (br_t rfl (cy_out hx (br_t rfl ⟨rfl, rel⟩)))
  · refine cx_in hj (br_f cd_one ?_)
    rw [cd_cl (by omega : j < 65536)]
    refine ⟨cd_vi hj, ?_⟩
    by_cases z : lv j = 0
    · exact br_t z (cy_in hj (br_f cd_one ⟨cd_vi hj, br_t z ⟨rfl, rel⟩⟩))
    · exact br_f z (cy_in hj (br_f cd_one ⟨cd_vi hj, br_f z ⟨rfl, rel⟩⟩))
theorem i_vc_nodeCount {k : Nat} {u : SX} {v : SY} (I : i_Rel k u v) (hk : k + 3 ≤ 1539) : wpX_nodeCount (fun r => wpY_nodeCount (fun r' => r' = r ∧ i_Rel (k + 3) u v) v) u := by
  obtain ⟨a, b, c, cr, lv, vx, C, vy, ho, rfl, rfl, ha, hb, hc0, hc, R⟩ := I
  have rel : i_Rel (k + 3) (nI a, nI b, nI c, nI (cd_c lv 0 256), nI (cd_n C 256), cr, lv, vx, fun j => nI (C j)) (nI a, nI b, nI c, cr, lv, (fun j => nI (cd_q (C j))), vy, ho, 65536) :=
    ⟨a, b, c, cr, lv, vx, C, vy, ho, rfl, rfl, ha, hb, hc0, hc, R⟩
  have cl := cd_cle lv 0 256
  have hC := cr_C R
  unfold wpX_nodeCount wpY_nodeCount
  dsimp only
  exact cy_count ⟨rfl, rel⟩
theorem i_vc_keyCount {k : Nat} {u : SX} {v : SY} (I : i_Rel k u v) (hk : k + 3 ≤ 1539) : wpX_keyCount (fun r => wpY_keyCount (fun r' => r' = r ∧ i_Rel (k + 3) u v) v) u := by
  obtain ⟨a, b, c, cr, lv, vx, C, vy, ho, rfl, rfl, ha, hb, hc0, hc, R⟩ := I
  have rel : i_Rel (k + 3) (nI a, nI b, nI c, nI (cd_c lv 0 256), nI (cd_n C 256), cr, lv, vx, fun j => nI (C j)) (nI a, nI b, nI c, cr, lv, (fun j => nI (cd_q (C j))), vy, ho, 65536) :=
    ⟨a, b, c, cr, lv, vx, C, vy, ho, rfl, rfl, ha, hb, hc0, hc, R⟩
  have cl := cd_cle lv 0 256
  have hC := cr_C R
  unfold wpX_keyCount
  dsimp only
  exact cy_keyCount ⟨rfl, rel⟩
theorem i_vc_pendingCrashes {k : Nat} {u : SX} {v : SY} (I : i_Rel k u v) (hk : k + 3 ≤ 1539) : wpX_pendingCrashes (fun r => wpY_pendingCrashes (fun r' => r' = r ∧ i_Rel (k + 3) u v) v) u := by
  obtain ⟨a, b, c, cr, lv, vx, C, vy, ho, rfl, rfl, ha, hb, hc0, hc, R⟩ := I
  have rel : i_Rel (k + 3) (nI a, nI b, nI c, nI (cd_c lv 0 256), nI (cd_n C 256), cr, lv, vx, fun j => nI (C j)) (nI a, nI b, nI c, cr, lv, (fun j => nI (cd_q (C j))), vy, ho, 65536) :=
    ⟨a, b, c, cr, lv, vx, C, vy, ho, rfl, rfl, ha, hb, hc0, hc, R⟩
  have cl := cd_cle lv 0 256
  have hC := cr_C R
  unfold wpX_pendingCrashes wpY_pendingCrashes
  dsimp only
  exact ⟨rfl, rel⟩
theorem i_vc_lookup {k : Nat} {u : SX} {v : SY} (I : i_Rel k u v) (hk : k + 3 ≤ 1539) (v1 : Int32) (v2 : Int32) : wpX_lookup (fun r => wpY_lookup (fun r' => r' = r ∧ i_Rel (k + 3) u v) v v1 v2) u v1 v2 := by
  obtain ⟨a, b, c, cr, lv, vx, C, vy, ho, rfl, rfl, ha, hb, hc0, hc, R⟩ := I
  have rel : i_Rel (k + 3) (nI a, nI b, nI c, nI (cd_c lv 0 256), nI (cd_n C 256), cr, lv, vx, fun j => nI (C j)) (nI a, nI b, nI c, cr, lv, (fun j => nI (cd_q (C j))), vy, ho, 65536) :=
    ⟨a, b, c, cr, lv, vx, C, vy, ho, rfl, rfl, ha, hb, hc0, hc, R⟩
  have cl := cd_cle lv 0 256
  have hC := cr_C R
  unfold wpX_lookup wpY_lookup
  dsimp only
  rcases cd_rg v1 with hx | ⟨j, hj, rfl⟩
  · exact cx_out hx (br_t rfl (cy_out hx (br_t rfl ⟨rfl, rel⟩)))
  · refine cx_in hj (br_f cd_one ?_)
    rw [cd_cl (by omega : j < 65536)]
    refine ⟨cd_vi hj, ?_⟩
    by_cases z : lv j = 0
    · exact br_t z (cy_in hj (br_f cd_one ⟨cd_vi hj, br_t z ⟨rfl, rel⟩⟩))
    · refine br_f z ?_
      rcases cd_rg v2 with hx | ⟨i, hi, rfl⟩
      · exact cx_out hx (br_t rfl (cy_in hj (br_f cd_one ⟨cd_vi hj, br_f z (cy_out hx (br_t rfl ⟨rfl, rel⟩))⟩)))
      · refine cx_in hi (br_f cd_one (cx_from (p := 0) hi (by decide) (fun w => ?_) (fun d hd l e => ?_)))
        · refine cy_in hj (br_f cd_one ⟨cd_vi hj, br_f z (cy_in hi (br_f cd_one (cy_from hi (fun _ => ⟨rfl, rel⟩) (fun d hd l e => ?_))))⟩)
          have q := cd_lt l hd
          omega
        · refine cy_in hj (br_f cd_one ⟨cd_vi hj, br_f z (cy_in hi (br_f cd_one (cy_from hi (fun w => ?_) (fun d' hd' l' e' => ?_))))⟩)
          · have q := cd_lt l hd
            omega
          · have q := cd_uniq l l' (e.trans e'.symm)
            subst q
            exact ⟨rfl, rel⟩
theorem i_vc_valueOf {k : Nat} {u : SX} {v : SY} (I : i_Rel k u v) (hk : k + 3 ≤ 1539) (v1 : Int32) : wpX_valueOf (fun r => wpY_valueOf (fun r' => r' = r ∧ i_Rel (k + 3) u v) v v1) u v1 := by
  obtain ⟨a, b, c, cr, lv, vx, C, vy, ho, rfl, rfl, ha, hb, hc0, hc, R⟩ := I
  have rel : i_Rel (k + 3) (nI a, nI b, nI c, nI (cd_c lv 0 256), nI (cd_n C 256), cr, lv, vx, fun j => nI (C j)) (nI a, nI b, nI c, cr, lv, (fun j => nI (cd_q (C j))), vy, ho, 65536) :=
    ⟨a, b, c, cr, lv, vx, C, vy, ho, rfl, rfl, ha, hb, hc0, hc, R⟩
  have cl := cd_cle lv 0 256
  have hC := cr_C R
  unfold wpX_valueOf wpY_valueOf
  dsimp only
  rcases cd_rg v1 with hx | ⟨j, hj, rfl⟩
  · exact cx_out hx (br_t rfl (cy_out hx (br_t rfl ⟨rfl, rel⟩)))
  · refine cx_in hj (br_f cd_one (cx_isStored hj (hC j hj) (fun z => ?_) (fun z => ?_)))
    · rw [cd_cl (by omega : j < 65536)]
      exact br_t rfl (cy_in hj (br_f cd_one ⟨cd_vi hj, br_t (cd_qI z) ⟨rfl, rel⟩⟩))
    · rw [cd_cl (by omega : j < 65536)]
      exact br_f cd_one ⟨cd_vi hj, cy_in hj (br_f cd_one ⟨cd_vi hj, br_f (cd_qJ z) ⟨cd_vi hj, R.2.1 j hj z, rel⟩⟩)⟩
theorem i_vc_holderAt {k : Nat} {u : SX} {v : SY} (I : i_Rel k u v) (hk : k + 3 ≤ 1539) (v1 : Int32) (v2 : Int32) : wpX_holderAt (fun r => wpY_holderAt (fun r' => r' = r ∧ i_Rel (k + 3) u v) v v1 v2) u v1 v2 := by
  obtain ⟨a, b, c, cr, lv, vx, C, vy, ho, rfl, rfl, ha, hb, hc0, hc, R⟩ := I
  have rel : i_Rel (k + 3) (nI a, nI b, nI c, nI (cd_c lv 0 256), nI (cd_n C 256), cr, lv, vx, fun j => nI (C j)) (nI a, nI b, nI c, cr, lv, (fun j => nI (cd_q (C j))), vy, ho, 65536) :=
    ⟨a, b, c, cr, lv, vx, C, vy, ho, rfl, rfl, ha, hb, hc0, hc, R⟩
  have cl := cd_cle lv 0 256
  have hC := cr_C R
  unfold wpX_holderAt wpY_holderAt
  dsimp only
  rcases cd_rg v1 with hx | ⟨j, hj, rfl⟩
  · exact cx_out hx (br_t rfl (cy_out hx (br_t rfl ⟨rfl, rel⟩)))
  · have Rj := R.1 j hj
    have rt := cd_rot lv j
    refine cx_in hj (br_f cd_one ?_)
    rw [cd_cl (by omega : j < 65536)]
    by_cases n0 : v2 < 0
    · refine br_t n0 (cy_in hj (br_f cd_one ⟨cd_vi hj, br_c (fun _ => ⟨rfl, rel⟩) (fun _ => br_f (Int32.not_le.mpr n0) ⟨rfl, rel⟩)⟩))
    · refine br_f n0 ⟨cd_vi hj, ?_⟩
      have n1 : (0 : Int32) ≤ v2 := Int32.not_lt.mp n0
      obtain ⟨p, hp, rfl⟩ := nI_of n0
      have hCj := hC j hj
      refine pk_lt p (C j) (fun q => ?_) (fun q => ?_)
      · have z : ¬ C j = 0 := by omega
        refine cx_from hj hp (fun w => absurd w (by omega)) (fun d hd l e => ?_)
        refine cy_in hj (br_f cd_one ⟨cd_vi hj, br_f (cd_qJ z) (br_t n1 (cy_holder (m := C j) hj hp (fun n hn => R.2.2 j n hj hn z) (fun w => absurd w (by omega)) (fun d' hd' l' y e' => ?_)))⟩)
        have u := cd_uniq l l' (e.trans e'.symm)
        subst u
        exact ⟨rfl, rel⟩
      · refine cy_in hj (br_f cd_one ⟨cd_vi hj, ?_⟩)
        by_cases z : C j = 0
        · exact br_t (cd_qI z) ⟨rfl, rel⟩
        · exact br_f (cd_qJ z) (br_t n1 (cy_holder (m := C j) hj hp (fun n hn => R.2.2 j n hj hn z) (fun _ => ⟨rfl, rel⟩) (fun d' hd' l' y e' => absurd y (by omega))))
theorem i_vc_holds {k : Nat} {u : SX} {v : SY} (I : i_Rel k u v) (hk : k + 3 ≤ 1539) (v1 : Int32) (v2 : Int32) : wpX_holds (fun r => wpY_holds (fun r' => r' = r ∧ i_Rel (k + 3) u v) v v1 v2) u v1 v2 := by
  obtain ⟨a, b, c, cr, lv, vx, C, vy, ho, rfl, rfl, ha, hb, hc0, hc, R⟩ := I
  have rel : i_Rel (k + 3) (nI a, nI b, nI c, nI (cd_c lv 0 256), nI (cd_n C 256), cr, lv, vx, fun j => nI (C j)) (nI a, nI b, nI c, cr, lv, (fun j => nI (cd_q (C j))), vy, ho, 65536) :=
    ⟨a, b, c, cr, lv, vx, C, vy, ho, rfl, rfl, ha, hb, hc0, hc, R⟩
  have cl := cd_cle lv 0 256
  have hC := cr_C R
  unfold wpX_holds wpY_holds
  dsimp only
  rcases cd_rg v1 with hx | ⟨j, hj, rfl⟩
  · exact cx_out hx (br_t rfl (cy_out hx (br_t rfl ⟨rfl, rel⟩)))
  · rcases cd_rg v2 with hx | ⟨i, hi, rfl⟩
    · exact cx_in hj (br_f cd_one (cx_out hx (br_t rfl (cy_in hj (br_f cd_one (cy_out hx (br_t rfl ⟨rfl, rel⟩)))))))
    · refine cx_in hj (br_f cd_one (cx_in hi (br_f cd_one ?_)))
      rw [cd_cl (by omega : i < 65536), cd_ix, cd_cl (by omega : i * 256 + j < 65536)]
      refine cx_isHolder hi hj (hC i hi) (fun z => br_t rfl ?_) (fun z => br_f cd_one ?_)
      · refine cy_in hj (br_f cd_one (cy_in hi (br_f cd_one ⟨cd_vi hi, br_c (fun _ => ⟨rfl, rel⟩) (fun y => ?_)⟩)))
        have c0 : ¬ C i = 0 := fun w => y (cd_qI w)
        have ev := (R.2.2 i j hi hj c0).trans z
        exact ⟨cd_vh (by omega), cd_nb (Or.inl ev), ev, rel⟩
      · have c0 : ¬ C i = 0 := by
          have := (cd_hi z).2
          omega
        have ev := (R.2.2 i j hi hj c0).trans (cd_ht (cd_hi z).1 (cd_hi z).2)
        exact cy_in hj (br_f cd_one (cy_in hi (br_f cd_one ⟨cd_vi hi, br_f (cd_qJ c0) ⟨cd_vh (by omega), cd_nb (Or.inr ev), ev, rel⟩⟩)))
theorem i_vc_keysAt {k : Nat} {u : SX} {v : SY} (I : i_Rel k u v) (hk : k + 3 ≤ 1539) (v1 : Int32) : wpX_keysAt (fun r => wpY_keysAt (fun r' => r' = r ∧ i_Rel (k + 3) u v) v v1) u v1 := by
  obtain ⟨a, b, c, cr, lv, vx, C, vy, ho, rfl, rfl, ha, hb, hc0, hc, R⟩ := I
  have rel : i_Rel (k + 3) (nI a, nI b, nI c, nI (cd_c lv 0 256), nI (cd_n C 256), cr, lv, vx, fun j => nI (C j)) (nI a, nI b, nI c, cr, lv, (fun j => nI (cd_q (C j))), vy, ho, 65536) :=
    ⟨a, b, c, cr, lv, vx, C, vy, ho, rfl, rfl, ha, hb, hc0, hc, R⟩
  have cl := cd_cle lv 0 256
  have hC := cr_C R
  unfold wpX_keysAt
  dsimp only
  rcases cd_rg v1 with hx | ⟨j, hj, rfl⟩
  · unfold wpY_keysAt
    dsimp only
    exact cx_out hx (br_t rfl (cy_out hx (br_t rfl ⟨rfl, rel⟩)))
  · exact cx_in hj (br_f cd_one (cx_keys hj hC (cy_keysAt hj R.2.2 ⟨rfl, rel⟩)))
theorem i_vc_keyAt {k : Nat} {u : SX} {v : SY} (I : i_Rel k u v) (hk : k + 3 ≤ 1539) (v1 : Int32) (v2 : Int32) : wpX_keyAt (fun r => wpY_keyAt (fun r' => r' = r ∧ i_Rel (k + 3) u v) v v1 v2) u v1 v2 := by
  obtain ⟨a, b, c, cr, lv, vx, C, vy, ho, rfl, rfl, ha, hb, hc0, hc, R⟩ := I
  have rel : i_Rel (k + 3) (nI a, nI b, nI c, nI (cd_c lv 0 256), nI (cd_n C 256), cr, lv, vx, fun j => nI (C j)) (nI a, nI b, nI c, cr, lv, (fun j => nI (cd_q (C j))), vy, ho, 65536) :=
    ⟨a, b, c, cr, lv, vx, C, vy, ho, rfl, rfl, ha, hb, hc0, hc, R⟩
  have cl := cd_cle lv 0 256
  have hC := cr_C R
  unfold wpX_keyAt wpY_keyAt
  dsimp only
  rcases cd_rg v1 with hx | ⟨j, hj, rfl⟩
  · exact cx_out hx (br_t rfl (cy_out hx (br_t rfl ⟨rfl, rel⟩)))
  · refine cx_in hj (br_f cd_one ?_)
    by_cases n0 : v2 < 0
    · exact br_f (Int32.not_le.mpr n0) (cy_in hj (br_f cd_one (br_f (Int32.not_le.mpr n0) ⟨rfl, rel⟩)))
    · have n1 : (0 : Int32) ≤ v2 := Int32.not_lt.mp n0
      obtain ⟨p, hp, rfl⟩ := nI_of n0
      have tl := cd_tl lv C j 256
      refine br_t n1 (cx_key hj hp hC (fun w => ?_) (fun i hi z e => ?_))
      · exact cy_in hj (br_f cd_one (br_t n1 (cy_keysAt hj R.2.2 (pk_lt p (cd_t lv C j 256) (fun q => absurd q (by omega)) (fun _ => ⟨rfl, rel⟩)))))
      · have tt := cd_tlt hi z
        refine cy_in hj (br_f cd_one (br_t n1 (cy_keysAt hj R.2.2 (pk_lt p (cd_t lv C j 256) (fun q => ?_) (fun q => absurd tt (by omega))))))
        refine cy_key hj hp R.2.2 (fun w => absurd w (by omega)) (fun i' hi' z' e' => ?_)
        have u := cd_tuniq z z' (e.trans e'.symm)
        subst u
        exact ⟨rfl, rel⟩
