/-! the component's own methods, each with a general post -/
theorem cd_ge : (256 : Int32) ≤ nI 256 := by
  rw [cd_256]
  exact nI_le (Nat.le_refl _) (by decide)
theorem cd_nge {i : Nat} (h : i < 256) : ¬ (256 : Int32) ≤ nI i := by
  rw [cd_256]
  exact nI_ge h (by decide)
theorem cd_n256 : ¬ (256 : Int32) = 0 := by decide
theorem cd_cl {n : Nat} (h : n < 65536) : (nI n).toNatClampNeg = n := nI_clamp (by omega)
theorem cd_vi {n : Nat} (h : n < 256) : vp_in (nI n) 256 := vp_in_nI h (by decide)
theorem cd_vh {n : Nat} (h : n < 65536) : vp_in (nI n) 65536 := vp_in_nI h (by decide)
theorem cd_p1 {x : Nat} (h : 0 < x) : nI x - 1 = nI (x - 1) := by
  obtain ⟨y, rfl⟩ : ∃ y, x = y + 1 := ⟨x - 1, by omega⟩
  exact nI_pred y
section
variable {mn mk mc ln sk cr : Int32} {lv vx cp : Nat → Int32} {C : Nat → Nat}
theorem cx_in {post : Int32 → Prop} {j : Nat} (hj : j < 256) (h : post 1) : wpX_inRange post (nI j) :=
  br_f (nI_pos (by omega)) (br_f (cd_nge hj) h)
theorem cx_out {post : Int32 → Prop} {x : Int32} (hx : x < 0 ∨ nI 256 ≤ x) (h : post 0) : wpX_inRange post x := by
  by_cases z : x < 0
  · exact br_t z h
  · refine br_f z (br_t ?_ h)
    rw [cd_256]
    exact hx.resolve_left z
theorem cx_isStored {post : Int32 → Prop} {k : Nat} (hk : k < 256) (hC : C k < 65536) (h0 : C k = 0 → post 0) (h1 : ¬ C k = 0 → post 1) :
    wpX_isStored post (mn, mk, mc, ln, sk, cr, lv, vx, fun j => nI (C j)) (nI k) := by
  unfold wpX_isStored
  dsimp only
  rw [cd_cl (by omega : k < 65536)]
  exact ⟨cd_vi hk, pk_le (C k) 0 (fun h => h0 (by omega)) (fun h => h1 (by omega))⟩
theorem cx_full {post : Int32 → Prop} {c l : Nat} (hc : c < 65536) (hl : l < 65536) (h : post (nI (min c l))) :
    wpX_fullCopies post (mn, mk, nI c, nI l, sk, cr, lv, vx, cp) := by
  unfold wpX_fullCopies
  dsimp only
  refine pk_le c l (fun q => ?_) (fun q => ?_)
  · rw [Nat.min_eq_left q] at h
    exact h
  · rw [Nat.min_eq_right (by omega)] at h
    exact h
theorem cx_repair {post : SX → Prop} {c l : Nat} (hc : c < 65536) (hl : l < 65536) (hC : ∀ j, j < 256 → C j < 65536)
    (h0 : l = 0 → post (mn, mk, nI c, nI l, 0, 0, lv, vx, fun j => nI (cd_x C (min c l) 256 j)))
    (h1 : ¬ l = 0 → post (mn, mk, nI c, nI l, sk, 0, lv, vx, fun j => nI (cd_x C (min c l) 256 j))) :
    wpX_repair post (mn, mk, nI c, nI l, sk, cr, lv, vx, fun j => nI (C j)) := by
  unfold wpX_repair
  dsimp only
  refine cx_full hc hl ?_
  have key : ∃ n, wX_repair_7 post (nI (min c l)) mn mk (nI c) (nI l) sk cr n (nI 0) lv vx (fun j => nI (cd_x C (min c l) 0 j)) :=
    cd_lq (fun n i => wX_repair_7 post (nI (min c l)) mn mk (nI c) (nI l) sk cr n (nI i) lv vx (fun j => nI (cd_x C (min c l) i j))) 256
      (fun n => br_t cd_ge (pk_eq l 0 h0 h1))
      (fun n i hi hW => br_f (cd_nge hi) (cx_isStored (C := cd_x C (min c l) i) hi (by rw [cd_xr]; exact hC i hi)
        (fun z => br_t rfl (nm_r (nI_1 i) (by rw [cd_xr] at z; rw [cd_xf z]; exact hW)))
        (fun z => br_f cd_one ⟨cd_vi hi, nm_r (by rw [cd_cl (by omega), cd_uI (cd_x C (min c l) i) i (min c l), cd_xt (by rw [cd_xr] at z; exact z)]) (nm_r (nI_1 i) hW)⟩)))
  rw [cd_x0] at key
  exact key
theorem cx_before {post : Int32 → Prop} {k n : Nat} (hk : k < 256) (hn : n < 256) (h : post (nI (cd_c lv k (cd_d k n)))) :
    wpX_liveNodesBefore post (mn, mk, mc, ln, sk, cr, lv, vx, cp) (nI n) (nI k) := by
  have dl := cd_dl k n
  unfold wpX_liveNodesBefore
  dsimp only
  refine ⟨cd_n256, nm_r (cd_ds hk hn) ?_⟩
  refine cd_lq (fun q i => wX_liveNodesBefore_18 post (nI k) (nI (cd_d k n)) mn mk mc ln sk cr lv vx cp q (nI (cd_c lv k i)) (nI i)) (cd_d k n)
    (fun q => br_t (Int32.le_refl _) h) (fun q i hi hW => br_f (nI_ge hi (by omega)) ⟨cd_n256, ?_⟩)
  have i2 : i < 256 := by omega
  have ml : (k + i) % 256 < 256 := Nat.mod_lt _ (by decide)
  rw [cd_md hk i2, cd_cl (by omega : (k + i) % 256 < 65536)]
  by_cases z : lv ((k + i) % 256) = 0
  · exact ⟨cd_vi ml, br_t z (nm_r (nI_1 i) (by rw [← cd_cf z]; exact hW))⟩
  · exact ⟨cd_vi ml, br_f z (nm_r (nI_1 _) (nm_r (nI_1 i) (by rw [← cd_ct z]; exact hW)))⟩
theorem cx_isHolder {post : Int32 → Prop} {k n : Nat} (hk : k < 256) (hn : n < 256) (hC : C k < 65536) (h0 : cd_h lv (C k) k n = 0 → post 0)
    (h1 : ¬ cd_h lv (C k) k n = 0 → post 1) : wpX_isHolder post (mn, mk, mc, ln, sk, cr, lv, vx, fun j => nI (C j)) (nI n) (nI k) := by
  have dl := cd_dl k n
  have cl := cd_cle lv k (cd_d k n)
  unfold wpX_isHolder
  dsimp only
  refine cx_isStored hk hC (fun z => br_t rfl (h0 (by rw [z]; exact cd_hz _ _ _))) (fun z => br_f cd_one ?_)
  rw [cd_cl (by omega : n < 65536)]
  refine ⟨cd_vi hn, br_c (fun y => h0 (cd_hd y)) (fun y => cx_before hk hn ⟨cd_vi hk, ?_⟩)⟩
  rw [cd_cl (by omega : k < 65536)]
  exact pk_le (C k) (cd_c lv k (cd_d k n)) (fun q => h0 (cd_hf (by omega))) (fun q => h1 (cd_hj y q))
theorem cx_drop {post : Int32 → SX → Prop} {d : Nat} (hd : d < 256) (hC : ∀ j, j < 256 → C j < 65536)
    (h : post (nI (cd_l lv C d 256)) (mn, mk, mc, ln, sk, cr, lv, vx, fun j => nI (cd_y lv C d 256 j))) :
    wpX_dropCopiesAt post (mn, mk, mc, ln, sk, cr, lv, vx, fun j => nI (C j)) (nI d) := by
  unfold wpX_dropCopiesAt
  dsimp only
  have key : ∃ n, wX_dropCopiesAt_4 post (nI d) mn mk mc ln sk cr n (nI (cd_l lv C d 0)) (nI 0) lv vx (fun j => nI (cd_y lv C d 0 j)) := by
    refine cd_lq (fun n i => wX_dropCopiesAt_4 post (nI d) mn mk mc ln sk cr n (nI (cd_l lv C d i)) (nI i) lv vx (fun j => nI (cd_y lv C d i j))) 256
      (fun n => br_t cd_ge h) (fun n i hi hW => br_f (cd_nge hi) (cx_isHolder (C := cd_y lv C d i) hi hd (by rw [cd_yr]; exact hC i hi) (fun z => ?_) (fun z => ?_)))
    · rw [cd_yr] at z
      refine br_t rfl (nm_r (nI_1 i) ?_)
      have e : cd_l lv C d (i + 1) = cd_l lv C d i := by
        show cd_l lv C d i + cd_w lv C d i = _
        rw [cd_w0 z]
        rfl
      rw [cd_yf z, ← e]
      exact hW
    · rw [cd_yr] at z
      have p := (cd_hi z).2
      have b := cd_b1 z
      have hCi := hC i hi
      have e : upd (fun j => nI (cd_y lv C d i j)) (nI i).toNatClampNeg (nI (cd_y lv C d i (nI i).toNatClampNeg) - 1) = fun j => nI (cd_y lv C d (i + 1) j) := by
        rw [cd_cl (by omega : i < 65536), cd_yr, cd_p1 (by omega), cd_uI (cd_y lv C d i) i (C i - 1), ← cd_ys, b]
      have y2 : cd_y lv C d (i + 1) i = C i - 1 := by
        rw [cd_yin lv C d (Nat.lt_succ_self i), b]
      refine br_f cd_one ⟨cd_vi hi, cd_vi hi, nm_r e (cx_isStored (C := cd_y lv C d (i + 1)) hi (by rw [y2]; omega) (fun w => ?_) (fun w => ?_))⟩
      · rw [y2] at w
        have e : cd_l lv C d (i + 1) = cd_l lv C d i + 1 := by
          show cd_l lv C d i + cd_w lv C d i = _
          rw [cd_w1 z (by omega)]
        refine br_t rfl (nm_r (nI_1 _) (nm_r (nI_1 i) ?_))
        rw [← e]
        exact hW
      · rw [y2] at w
        have e : cd_l lv C d (i + 1) = cd_l lv C d i := by
          show cd_l lv C d i + cd_w lv C d i = _
          rw [cd_w2 z (by omega)]
          rfl
        refine br_f cd_one (nm_r (nI_1 i) ?_)
        rw [← e]
        exact hW
  rw [cd_y0] at key
  exact key
/-- what is missing at key k -/
def cd_g (C : Nat → Nat) (m k : Nat) : Nat := if C k = 0 then 0 else m - C k
theorem cd_g0 {m k : Nat} (h : C k = 0) : cd_g C m k = 0 := if_pos h
theorem cd_g1 {m k : Nat} (h : ¬ C k = 0) : cd_g C m k = m - C k := if_neg h
theorem cx_missing {post : Int32 → Prop} {c l : Nat} (hc : c < 65536) (hl : l < 65536) (hC : ∀ j, j < 256 → C j ≤ min c l)
    (h : post (nI (cd_s (cd_g C (min c l)) 256))) : wpX_missingCopies post (mn, mk, nI c, nI l, sk, cr, lv, vx, fun j => nI (C j)) := by
  unfold wpX_missingCopies
  dsimp only
  refine cx_full hc hl ?_
  refine cd_lq (fun n i => wX_missingCopies_9 post (nI (min c l)) mn mk (nI c) (nI l) sk cr lv vx (fun j => nI (C j)) n (nI (cd_s (cd_g C (min c l)) i)) (nI i)) 256
    (fun n => br_t cd_ge h) (fun n i hi hW => br_f (cd_nge hi) (cx_isStored hi (by have := hC i hi; omega) (fun z => ?_) (fun z => ?_)))
  · refine br_t rfl (nm_r (nI_1 i) ?_)
    have e : cd_s (cd_g C (min c l)) (i + 1) = cd_s (cd_g C (min c l)) i := by
      rw [cd_ss, cd_g0 z]
      rfl
    rw [← e]
    exact hW
  · have e : cd_s (cd_g C (min c l)) (i + 1) = cd_s (cd_g C (min c l)) i + (min c l - C i) := by
      rw [cd_ss, cd_g1 z]
    refine br_f cd_one ⟨cd_vi hi, nm_r (e' := nI (cd_s (cd_g C (min c l)) (i + 1))) ?_ (nm_r (nI_1 i) hW)⟩
    rw [cd_cl (by omega : i < 65536), pk_sub (hC i hi), nI_add, e]
theorem cx_from {post : Int32 → Prop} {k p : Nat} (hk : k < 256) (hp : p < 2 ^ 31) (h0 : cd_c lv k 256 ≤ p → post (-1))
    (h1 : ∀ d, d < 256 → ¬ lv ((k + d) % 256) = 0 → cd_c lv k d = p → post (nI ((k + d) % 256))) :
    wpX_liveNodeFrom post (mn, mk, mc, ln, sk, cr, lv, vx, cp) (nI k) (nI p) := by
  unfold wpX_liveNodeFrom
  dsimp only
  refine cd_lp (fun n i => wX_liveNodeFrom_5 post (nI k) (nI p) mn mk mc ln sk cr lv vx cp n (nI (cd_c lv k i)) (nI i)) (fun i => cd_c lv k i ≤ p) 256
    (Nat.zero_le _) (fun n h => br_t cd_ge (h0 h)) (fun n i hi hI hW => br_f (cd_nge hi) ⟨cd_n256, nm_r (cd_md hk hi) ?_⟩)
  have ml : (k + i) % 256 < 256 := Nat.mod_lt _ (by decide)
  have cl := cd_cle lv k i
  rw [cd_cl (by omega : (k + i) % 256 < 65536)]
  refine ⟨cd_vi ml, ?_⟩
  by_cases z : lv ((k + i) % 256) = 0
  · refine br_t z (nm_r (nI_1 i) ?_)
    have e := cd_cf z
    rw [← e]
    exact hW (by omega)
  · refine br_f z (pk_eq (cd_c lv k i) p (fun q => h1 i hi z q) (fun q => nm_r (nI_1 _) (nm_r (nI_1 i) ?_)))
    have e := cd_ct z
    rw [← e]
    exact hW (by omega)
/-- the keys below i that node d holds -/
def cd_t (lv : Nat → Int32) (C : Nat → Nat) (d i : Nat) : Nat := cd_s (fun k => cd_b (cd_h lv (C k) k d)) i
theorem cd_tt {d i : Nat} (h : ¬ cd_h lv (C i) i d = 0) : cd_t lv C d (i + 1) = cd_t lv C d i + 1 := by
  show cd_t lv C d i + cd_b (cd_h lv (C i) i d) = _
  rw [cd_b1 h]
theorem cd_tf {d i : Nat} (h : cd_h lv (C i) i d = 0) : cd_t lv C d (i + 1) = cd_t lv C d i := by
  show cd_t lv C d i + cd_b (cd_h lv (C i) i d) = _
  rw [cd_b0 h]
  rfl
theorem cd_tl (lv : Nat → Int32) (C : Nat → Nat) (d i : Nat) : cd_t lv C d i ≤ i := by
  have a := cd_sl (f := fun k => cd_b (cd_h lv (C k) k d)) (m := 1) i (fun j _ => cd_bl _)
  rw [Nat.mul_one] at a
  exact a
theorem cd_tz {d : Nat} (h : lv d = 0) (i : Nat) : cd_t lv C d i = 0 := cd_s0 i (fun j _ => cd_b0 (cd_hd h))
theorem cx_keys {post : Int32 → Prop} {d : Nat} (hd : d < 256) (hC : ∀ j, j < 256 → C j < 65536) (h : post (nI (cd_t lv C d 256))) :
    ∃ n, wX_keysAt_13 post (nI d) mn mk mc ln sk cr lv vx (fun j => nI (C j)) n 0 0 := by
  refine cd_lq (fun n i => wX_keysAt_13 post (nI d) mn mk mc ln sk cr lv vx (fun j => nI (C j)) n (nI (cd_t lv C d i)) (nI i)) 256
    (fun n => br_t cd_ge h) (fun n i hi hW => br_f (cd_nge hi) (cx_isHolder hi hd (hC i hi) (fun z => br_t rfl (nm_r (nI_1 i) ?_)) (fun z => br_f cd_one (nm_r (nI_1 _) (nm_r (nI_1 i) ?_)))))
  · rw [← cd_tf z]
    exact hW
  · rw [← cd_tt z]
    exact hW
theorem cx_key {post : Int32 → Prop} {d p : Nat} (hd : d < 256) (hp : p < 2 ^ 31) (hC : ∀ j, j < 256 → C j < 65536) (h0 : cd_t lv C d 256 ≤ p → post (-1))
    (h1 : ∀ i, i < 256 → ¬ cd_h lv (C i) i d = 0 → cd_t lv C d i = p → post (nI i)) :
    ∃ n, wX_keyAt_18 post (nI d) (nI p) mn mk mc ln sk cr lv vx (fun j => nI (C j)) n 0 0 := by
  refine cd_lp (fun n i => wX_keyAt_18 post (nI d) (nI p) mn mk mc ln sk cr lv vx (fun j => nI (C j)) n (nI (cd_t lv C d i)) (nI i)) (fun i => cd_t lv C d i ≤ p) 256
    (Nat.zero_le _) (fun n h => br_t cd_ge (h0 h)) (fun n i hi hI hW => br_f (cd_nge hi) (cx_isHolder hi hd (hC i hi) (fun z => br_t rfl (nm_r (nI_1 i) ?_)) (fun z => br_f cd_one ?_)))
  · have e := cd_tf z
    rw [← e]
    exact hW (by omega)
  · have cl := cd_tl lv C d i
    refine pk_eq (cd_t lv C d i) p (fun q => h1 i hi z q) (fun q => nm_r (nI_1 _) (nm_r (nI_1 i) ?_))
    have e := cd_tt z
    rw [← e]
    exact hW (by omega)
end
