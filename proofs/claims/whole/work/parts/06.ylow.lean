/-! the reference's own methods, each with a general post -/
section
variable {mn mk rp pe : Int32} {lv st va ho : Nat → Int32} {C : Nat → Nat} {nh : Nat}
theorem cd_255 : (255 : Int32) = nI 255 := by decide +kernel
theorem cy_in {post : Int32 → Prop} {j : Nat} (hj : j < 256) (h : post 1) : wpY_inRange post (mn, mk, rp, pe, lv, st, va, ho, nh) (nI j) := by
  refine br_f (nI_pos (by omega)) (br_f ?_ h)
  rw [cd_255]
  exact nI_nlt (by omega) (by decide)
theorem cy_out {post : Int32 → Prop} {x : Int32} (hx : x < 0 ∨ nI 256 ≤ x) (h : post 0) : wpY_inRange post (mn, mk, rp, pe, lv, st, va, ho, nh) x := by
  by_cases z : x < 0
  · exact br_t z h
  · refine br_f z (br_t ?_ h)
    obtain ⟨j, hj, rfl⟩ := nI_of z
    have q := hx.resolve_left z
    rw [nI_leI (by decide) hj] at q
    rw [cd_255]
    exact nI_lt (by omega) hj
theorem cd_m256 {i : Nat} (h : i < 256) : (0 + i) % 256 = i := by omega
theorem cy_count {post : Int32 → Prop} (h : post (nI (cd_c lv 0 256))) : wpY_countLive post (mn, mk, rp, pe, lv, st, va, ho, nh) := by
  unfold wpY_countLive
  dsimp only
  refine cd_lq (fun n i => wY_countLive_4 post mn mk rp pe lv st va ho nh n (nI (cd_c lv 0 i)) (nI i)) 256
    (fun n => br_t cd_ge h) (fun n i hi hW => br_f (cd_nge hi) ⟨cd_vi hi, ?_⟩)
  rw [cd_cl (by omega : i < 65536)]
  by_cases z : lv i = 0
  · have z2 : lv ((0 + i) % 256) = 0 := by
      rw [cd_m256 hi]
      exact z
    exact br_t z (nm_r (nI_1 i) (by rw [← cd_cf z2]; exact hW))
  · have z2 : ¬ lv ((0 + i) % 256) = 0 := by
      rw [cd_m256 hi]
      exact z
    exact br_f z (nm_r (nI_1 _) (nm_r (nI_1 i) (by rw [← cd_ct z2]; exact hW)))
theorem cd_qI {x : Nat} (h : x = 0) : nI (cd_q x) = 0 := by
  rw [cd_q0 h]
  rfl
theorem cd_qJ {x : Nat} (h : ¬ x = 0) : ¬ nI (cd_q x) = 0 := by
  rw [cd_q1 h]
  decide
theorem cy_keyCount {post : Int32 → Prop} (h : post (nI (cd_n C 256))) : wpY_keyCount post (mn, mk, rp, pe, lv, (fun j => nI (cd_q (C j))), va, ho, nh) := by
  unfold wpY_keyCount
  dsimp only
  refine cd_lq (fun n i => wY_keyCount_4 post mn mk rp pe lv (fun j => nI (cd_q (C j))) va ho nh n (nI (cd_n C i)) (nI i)) 256
    (fun n => br_t cd_ge h) (fun n i hi hW => br_f (cd_nge hi) ⟨cd_vi hi, ?_⟩)
  rw [cd_cl (by omega : i < 65536)]
  by_cases z : C i = 0
  · have e : cd_n C (i + 1) = cd_n C i := by
      show cd_n C i + cd_q (C i) = _
      rw [cd_q0 z]
      rfl
    exact br_t (cd_qI z) (nm_r (nI_1 i) (by rw [← e]; exact hW))
  · have e : cd_n C (i + 1) = cd_n C i + 1 := by
      show cd_n C i + cd_q (C i) = _
      rw [cd_q1 z]
    exact br_f (cd_qJ z) (nm_r (nI_1 _) (nm_r (nI_1 i) (by rw [← e]; exact hW)))
theorem cy_80 {post : Int32 → SY → Prop} {J : Int32 → Int32 → Int32 → (Nat → Int32) → (Nat → Int32) → (Nat → Int32) → (Nat → Int32) → Prop} {k d a b : Nat} {x7 : Int32} {c : Nat} {h0 : Nat → Int32}
    (hk : k < 256) (hd : d < 256) (hx : cd_h lv c k ((k + d) % 256) = x7) (hJ : J (nI a) (nI b) (nI (d + 1)) lv st va (cd_sp lv c k h0 (d + 1))) :
    wY_setTop_80 post J (nI k) (nI a) (nI b) (nI d) (nI ((k + d) % 256)) x7 mn mk rp pe lv st va (cd_sp lv c k h0 d) 65536 := by
  have ml : (k + d) % 256 < 256 := Nat.mod_lt _ (by decide)
  have v01 : x7 = 0 ∨ x7 = 1 := by
    rw [← hx]
    exact cd_h01 _ _ _ _
  unfold wY_setTop_80
  rw [cd_ix, cd_cl (by omega : k * 256 + (k + d) % 256 < 65536), cd_vb v01, ← hx, cd_sps lv h0 hk hd]
  exact ⟨cd_vh (by omega), nm_e (nm_r (nI_1 d) hJ)⟩
theorem cy_setTop {post : Int32 → SY → Prop} {k c : Nat} (hk : k < 256) (hc : c < 65536)
    (h : post (nI (cd_r lv (fun n => ho (k * 256 + n)) c k 256)) (mn, mk, nI c, pe, lv, st, va, cd_st lv c k ho, 65536)) :
    wpY_setTop post (mn, mk, nI c, pe, lv, st, va, ho, 65536) (nI k) := by
  unfold wpY_setTop
  dsimp only
  have key : ∃ n, wY_setTop_7 post (nI k) mn mk (nI c) pe 65536 n (nI (min (cd_c lv k 0) c)) (nI (cd_r lv (fun n => ho (k * 256 + n)) c k 0)) (nI 0) lv st va (cd_sp lv c k ho 0) := by
    refine cd_lq (fun n d => wY_setTop_7 post (nI k) mn mk (nI c) pe 65536 n (nI (min (cd_c lv k d) c)) (nI (cd_r lv (fun n => ho (k * 256 + n)) c k d)) (nI d) lv st va (cd_sp lv c k ho d)) 256
      (fun n => br_t cd_ge (by rw [cd_spe]; exact h)) (fun n d hd hW => br_f (cd_nge hd) ⟨cd_n256, nm_r (cd_md hk hd) ?_⟩)
    have ml : (k + d) % 256 < 256 := Nat.mod_lt _ (by decide)
    have cl := cd_cle lv k d
    have er : cd_r lv (fun n => ho (k * 256 + n)) c k (d + 1) = cd_r lv (fun n => ho (k * 256 + n)) c k d + cd_e lv (fun n => ho (k * 256 + n)) c k d := rfl
    rw [cd_ix, cd_cl (by omega : k * 256 + (k + d) % 256 < 65536), cd_cl (by omega : (k + d) % 256 < 65536), cd_spr lv ho hk hd]
    refine ⟨cd_vh (by omega), nm_e ⟨cd_vi ml, ?_⟩⟩
    by_cases z : lv ((k + d) % 256) = 0
    · refine br_t z (br_t rfl (cy_80 hk hd (cd_hd z) ?_))
      rw [cd_e0 z] at er
      replace er := er.trans (Nat.add_zero _)
      rw [← cd_cf z, ← er]
      exact hW
    · refine br_f z (pk_le c (min (cd_c lv k d) c) (fun q => br_t rfl (cy_80 hk hd (cd_hsf hk hd (by omega)) ?_)) (fun q => nm_r (nI_1 _) (br_f cd_one ?_)))
      · have e1 : min (cd_c lv k (d + 1)) c = min (cd_c lv k d) c := by
          have := cd_ct z
          omega
        rw [cd_e1 (by omega)] at er
        replace er := er.trans (Nat.add_zero _)
        rw [← e1, ← er]
        exact hW
      · have e1 : min (cd_c lv k (d + 1)) c = min (cd_c lv k d) c + 1 := by
          have := cd_ct z
          omega
        have e2 : cd_h lv c k ((k + d) % 256) = 1 := cd_hst hk hd z (by omega)
        by_cases y : ho (k * 256 + (k + d) % 256) = 0
        · rw [cd_e3 z (by omega) y] at er
          refine br_t y (nm_r (nI_1 _) (cy_80 hk hd e2 ?_))
          rw [← e1, ← er]
          exact hW
        · rw [cd_e2 y] at er
          replace er := er.trans (Nat.add_zero _)
          refine br_f y (cy_80 hk hd e2 ?_)
          rw [← e1, ← er]
          exact hW
  have e0 : min (cd_c lv k 0) c = 0 := Nat.zero_min c
  rw [cd_sp0, e0] at key
  exact key
theorem cy_dropKey {post : SY → Prop} {k : Nat} (hk : k < 256) (h : post (mn, mk, rp, pe, lv, upd st k 0, upd va k 0, cd_dk k ho, 65536)) :
    wpY_dropKey post (mn, mk, rp, pe, lv, st, va, ho, 65536) (nI k) := by
  unfold wpY_dropKey
  dsimp only
  rw [cd_cl (by omega : k < 65536), cd_v0]
  refine ⟨cd_vi hk, nm_e ⟨cd_vi hk, nm_e ?_⟩⟩
  have key : ∃ n, wY_dropKey_16 post (nI k) mn mk rp pe 65536 n (nI 0) lv (upd st k 0) (upd va k 0) (cd_dp k ho 0) := by
    refine cd_lq (fun n i => wY_dropKey_16 post (nI k) mn mk rp pe 65536 n (nI i) lv (upd st k 0) (upd va k 0) (cd_dp k ho i)) 256
      (fun n => br_t cd_ge (by rw [cd_dpe]; exact h)) (fun n i hi hW => br_f (cd_nge hi) ?_)
    rw [cd_ix, cd_cl (by omega : k * 256 + i < 65536), cd_v0, cd_dps k ho hi]
    exact ⟨cd_vh (by omega), nm_e (nm_r (nI_1 i) hW)⟩
  rw [cd_dp0] at key
  exact key
/-- what setTop creates at key k in a repair -/
def cd_z (lv : Nat → Int32) (c : Nat) (C : Nat → Nat) (ho : Nat → Int32) (k : Nat) : Nat := if C k = 0 then 0 else cd_r lv (fun n => ho (k * 256 + n)) c k 256
theorem cd_z0 {c k : Nat} (h : C k = 0) : cd_z lv c C ho k = 0 := if_pos h
theorem cd_z1 {c k : Nat} (h : ¬ C k = 0) : cd_z lv c C ho k = cd_r lv (fun n => ho (k * 256 + n)) c k 256 := if_neg h
theorem cy_repair {post : Int32 → SY → Prop} {c : Nat} (hc : c < 65536)
    (h0 : cd_c lv 0 256 = 0 → ∀ va' ho', post 0 (mn, mk, nI c, 0, lv, (fun j => nI (cd_q (cd_x C 0 256 j))), va', ho', 65536))
    (h1 : ¬ cd_c lv 0 256 = 0 → post (nI (cd_s (cd_z lv c C ho) 256)) (mn, mk, nI c, 0, lv, (fun j => nI (cd_q (C j))), va, cd_rp lv c C ho 256, 65536)) :
    wpY_repair post (mn, mk, nI c, pe, lv, (fun j => nI (cd_q (C j))), va, ho, 65536) := by
  have cl := cd_cle lv 0 256
  unfold wpY_repair
  dsimp only
  refine cy_count (pk_eq (cd_c lv 0 256) 0 (fun z => ?_) (fun z => ?_))
  · have key : ∃ n, wY_repair_11 post 0 n (nI 0) mn mk (nI c) pe lv (fun j => nI (cd_q (cd_x C 0 0 j))) va ho 65536 := by
      refine loop_0 (fun n i (s : (Nat → Int32) × (Nat → Int32)) => wY_repair_11 post 0 n (nI i) mn mk (nI c) pe lv (fun j => nI (cd_q (cd_x C 0 i j))) s.1 s.2 65536) (fun _ _ => True) 256 (va, ho) trivial
        (fun n s _ => br_t cd_ge (h0 z s.1 s.2)) (fun n i s hi _ hW => br_f (cd_nge hi) ⟨cd_vi hi, ?_⟩)
      rw [cd_cl (by omega : i < 65536)]
      by_cases y : C i = 0
      · refine br_t (cd_qI ((cd_xr C 0 i).trans y)) (nm_r (nI_1 i) ?_)
        rw [cd_xf y]
        exact hW s trivial
      · refine br_f (cd_qJ (by rw [cd_xr]; exact y)) (cy_dropKey hi (nm_r (nI_1 i) ?_))
        have e : upd (fun j => nI (cd_q (cd_x C 0 i j))) i 0 = fun j => nI (cd_q (cd_x C 0 (i + 1) j)) := by
          rw [← cd_xt y]
          exact cd_uQ (cd_x C 0 i) i 0
        rw [e]
        exact hW (_, _) trivial
    rw [cd_x0] at key
    exact key
  · have key : ∃ n, wY_repair_43 post n (nI (cd_s (cd_z lv c C ho) 0)) (nI 0) mn mk (nI c) pe lv (fun j => nI (cd_q (C j))) va (cd_rp lv c C ho 0) 65536 := by
      refine cd_lq (fun n i => wY_repair_43 post n (nI (cd_s (cd_z lv c C ho) i)) (nI i) mn mk (nI c) pe lv (fun j => nI (cd_q (C j))) va (cd_rp lv c C ho i) 65536) 256
        (fun n => br_t cd_ge (h1 z)) (fun n i hi hW => br_f (cd_nge hi) ⟨cd_vi hi, ?_⟩)
      rw [cd_cl (by omega : i < 65536)]
      by_cases y : C i = 0
      · refine br_t (cd_qI y) (nm_r (nI_1 i) ?_)
        have e : cd_s (cd_z lv c C ho) (i + 1) = cd_s (cd_z lv c C ho) i := by
          rw [cd_ss, cd_z0 y]
          rfl
        rw [cd_rpf lv ho y, ← e]
        exact hW
      · refine br_f (cd_qJ y) (cy_setTop hi hc ?_)
        have er : cd_r lv (fun n => cd_rp lv c C ho i (i * 256 + n)) c i 256 = cd_r lv (fun n => ho (i * 256 + n)) c i 256 :=
          cd_rc (fun n hn => cd_rpr lv ho hn) 256
        have e : cd_s (cd_z lv c C ho) (i + 1) = cd_s (cd_z lv c C ho) i + cd_r lv (fun n => ho (i * 256 + n)) c i 256 := by
          rw [cd_ss, cd_z1 y]
        rw [er, cd_rpt lv ho y]
        refine nm_r (nI_add _ _) (nm_r (nI_1 i) ?_)
        rw [← e]
        exact hW
    rw [cd_rp0] at key
    exact key
end
