/-! the reference's loops that read or drop holders -/
section
variable {mn mk rp pe : Int32} {lv st va ho : Nat → Int32} {C : Nat → Nat}
theorem cy_any {post : Int32 → SY → Prop} {J : Int32 → Int32 → Int32 → Int32 → Int32 → Int32 → (Nat → Int32) → (Nat → Int32) → (Nat → Int32) → (Nat → Int32) → Nat → Prop} {x1 x2 : Int32} {k : Nat} (hk : k < 256)
    (h0 : (∀ n, n < 256 → ho (k * 256 + n) = 0) → J (x2 + 1) (nI (k + 1)) mn mk rp pe lv (upd st k 0) (upd va k 0) (cd_dk k ho) 65536)
    (h1 : (∃ n, n < 256 ∧ ¬ ho (k * 256 + n) = 0) → J x2 (nI (k + 1)) mn mk rp pe lv st va ho 65536) :
    ∃ n, wY_crash_83 post J x1 x2 (nI k) mn mk rp pe lv st va ho 65536 n 0 0 := by
  refine loop_0 (fun n i (s : Int32) => wY_crash_83 post J x1 x2 (nI k) mn mk rp pe lv st va ho 65536 n s (nI i))
    (fun i s => (s = 0 ∧ ∀ j, j < i → ho (k * 256 + j) = 0) ∨ (s = 1 ∧ ∃ j, j < i ∧ ¬ ho (k * 256 + j) = 0)) 256 0 (Or.inl ⟨rfl, fun j hj => absurd hj (Nat.not_lt_zero _)⟩)
    (fun n s hI => ?_) (fun n i s hi hI hW => br_f (cd_nge hi) ?_)
  · rcases hI with ⟨e, g⟩ | ⟨e, g⟩
    · subst e
      exact br_t cd_ge (br_t rfl (cy_dropKey hk (nm_e (nm_r (nI_1 k) (h0 g)))))
    · subst e
      exact br_t cd_ge (br_f cd_one (nm_r (nI_1 k) (h1 g)))
  · rw [cd_ix, cd_cl (by omega : k * 256 + i < 65536)]
    refine ⟨cd_vh (by omega), ?_⟩
    by_cases z : ho (k * 256 + i) = 0
    · refine br_t z (nm_r (nI_1 i) (hW s ?_))
      rcases hI with ⟨e, g⟩ | ⟨e, j, hj, g⟩
      · refine Or.inl ⟨e, fun j hj => ?_⟩
        by_cases q : j = i
        · rw [q]
          exact z
        · exact g j (by omega)
      · exact Or.inr ⟨e, j, by omega, g⟩
    · exact br_f z (nm_r (nI_1 i) (hW 1 (Or.inr ⟨rfl, i, by omega, z⟩)))
theorem cd_le0 {d i : Nat} (h : cd_h lv (C i) i d = 0) : cd_l lv C d (i + 1) = cd_l lv C d i := by
  show cd_l lv C d i + cd_w lv C d i = _
  rw [cd_w0 h]
  rfl
theorem cd_le1 {d i : Nat} (h : ¬ cd_h lv (C i) i d = 0) (g : C i = 1) : cd_l lv C d (i + 1) = cd_l lv C d i + 1 := by
  show cd_l lv C d i + cd_w lv C d i = _
  rw [cd_w1 h g]
theorem cd_le2 {d i : Nat} (h : ¬ cd_h lv (C i) i d = 0) (g : C i ≠ 1) : cd_l lv C d (i + 1) = cd_l lv C d i := by
  show cd_l lv C d i + cd_w lv C d i = _
  rw [cd_w2 h g]
  rfl
theorem cd_yq {d i : Nat} (h : ¬ cd_h lv (C i) i d = 0) (g : C i ≠ 1) : (fun j => nI (cd_q (cd_y lv C d i j))) = fun j => nI (cd_q (cd_y lv C d (i + 1) j)) := by
  have p := (cd_hi h).2
  funext j
  by_cases q : j = i
  · rw [q, cd_yr, cd_yin lv C d (Nat.lt_succ_self i), cd_b1 h, cd_q1 (by omega), cd_q1 (by omega)]
  · rw [← cd_ys, cd_un q]
theorem cd_yz {d i : Nat} (h : ¬ cd_h lv (C i) i d = 0) (g : C i = 1) : upd (fun j => nI (cd_q (cd_y lv C d i j))) i 0 = fun j => nI (cd_q (cd_y lv C d (i + 1) j)) := by
  rw [← cd_ys, cd_b1 h, g]
  exact cd_uQ (cd_y lv C d i) i 0
theorem cy_crash {post : Int32 → SY → Prop} {d : Nat} (hd : d < 256) (hl : ¬ lv d = 0) (hc : ∀ j, j < 256 → C j ≤ cd_c lv 0 256)
    (hh : ∀ k n, k < 256 → n < 256 → ¬ C k = 0 → ho (k * 256 + n) = cd_h lv (C k) k n)
    (h : ∀ va' ho', cd_J lv C va ho d 256 va' ho' → post (nI (cd_l lv C d 256)) (mn, mk, rp, pe + 1, upd lv d 0, (fun j => nI (cd_q (cd_y lv C d 256 j))), va', ho', 65536)) :
    ∃ n, wY_crash_33 post (nI d) n 0 0 mn mk rp pe (upd lv d 0) (fun j => nI (cd_q (C j))) va ho 65536 := by
  have key : ∃ n, wY_crash_33 post (nI d) n (nI (cd_l lv C d 0)) (nI 0) mn mk rp pe (upd lv d 0) (fun j => nI (cd_q (cd_y lv C d 0 j))) va ho 65536 := by
    refine loop_0 (fun n i (s : (Nat → Int32) × (Nat → Int32)) => wY_crash_33 post (nI d) n (nI (cd_l lv C d i)) (nI i) mn mk rp pe (upd lv d 0) (fun j => nI (cd_q (cd_y lv C d i j))) s.1 s.2 65536)
      (fun i s => cd_J lv C va ho d i s.1 s.2) 256 (va, ho) (cd_J0 lv C va ho d) (fun n s hI => br_t cd_ge (nm_e (h s.1 s.2 hI))) (fun n i s hi J hW => br_f (cd_nge hi) ⟨cd_vi hi, ?_⟩)
    rw [cd_cl (by omega : i < 65536)]
    by_cases c0 : C i = 0
    · have z : cd_h lv (C i) i d = 0 := by
        rw [c0]
        exact cd_hz _ _ _
      refine br_t (cd_qI ((cd_yr lv C d i).trans c0)) (nm_r (nI_1 i) ?_)
      rw [cd_yf z, ← cd_le0 z]
      exact hW s (cd_Ja hd hi hl z (fun q => absurd c0 q) J)
    · have ev : s.2 (i * 256 + d) = cd_h lv (C i) i d := (J.2.2 i d hi hd (Nat.le_refl _)).trans (hh i d hi hd c0)
      refine br_f (cd_qJ (by rw [cd_yr]; exact c0)) ?_
      rw [cd_ix, cd_cl (by omega : i * 256 + d < 65536), cd_v0]
      refine ⟨cd_vh (by omega), ?_⟩
      by_cases z : cd_h lv (C i) i d = 0
      · refine br_t (ev.trans z) (nm_r (nI_1 i) ?_)
        rw [cd_yf z, ← cd_le0 z]
        exact hW s (cd_Ja hd hi hl z (fun q n hn => hh i n hi hn q) J)
      · obtain ⟨a1, a2⟩ := cd_any hd hi (hc i hi) z (fun n hn => hh i n hi hn c0) J
        refine br_f (by rw [ev]; exact z) ⟨cd_vh (by omega), nm_e (cy_any hi (fun all => ?_) (fun ex => ?_))⟩
        · have c1 : C i = 1 := by
            by_cases q : C i = 1
            · exact q
            · obtain ⟨n, hn, g⟩ := a2 q
              exact absurd (all n hn) g
          rw [nI_1, ← cd_le1 z c1, cd_yz z c1]
          exact hW (_, _) (cd_Jb hd z c1 J)
        · have c1 : C i ≠ 1 := by
            intro q
            obtain ⟨n, hn, g⟩ := ex
            exact g (a1 q n hn)
          rw [← cd_le2 z c1, cd_yq z c1]
          exact hW (_, _) (cd_Jc hd hl z (fun n hn => hh i n hi hn c0) J)
  rw [cd_y0] at key
  exact key
theorem cy_keys {post : Int32 → Prop} {d : Nat} (hd : d < 256) (hh : ∀ k n, k < 256 → n < 256 → ¬ C k = 0 → ho (k * 256 + n) = cd_h lv (C k) k n)
    (h : post (nI (cd_t lv C d 256))) : ∃ n, wY_keysAt_23 post (nI d) mn mk rp pe lv (fun j => nI (cd_q (C j))) va ho 65536 n 0 0 := by
  refine cd_lq (fun n i => wY_keysAt_23 post (nI d) mn mk rp pe lv (fun j => nI (cd_q (C j))) va ho 65536 n (nI (cd_t lv C d i)) (nI i)) 256
    (fun n => br_t cd_ge h) (fun n i hi hW => br_f (cd_nge hi) ⟨cd_vi hi, ?_⟩)
  rw [cd_cl (by omega : i < 65536), cd_ix, cd_cl (by omega : i * 256 + d < 65536)]
  by_cases c0 : C i = 0
  · have z : cd_h lv (C i) i d = 0 := by
      rw [c0]
      exact cd_hz _ _ _
    refine br_t (cd_qI c0) (nm_r (nI_1 i) ?_)
    rw [← cd_tf z]
    exact hW
  · have ev := hh i d hi hd c0
    refine br_f (cd_qJ c0) ⟨cd_vh (by omega), ?_⟩
    by_cases z : cd_h lv (C i) i d = 0
    · refine br_t (ev.trans z) (nm_r (nI_1 i) ?_)
      rw [← cd_tf z]
      exact hW
    · refine br_f (by rw [ev]; exact z) (nm_r (nI_1 _) (nm_r (nI_1 i) ?_))
      rw [← cd_tt z]
      exact hW
theorem cy_key {post : Int32 → Prop} {d p : Nat} (hd : d < 256) (hp : p < 2 ^ 31) (hh : ∀ k n, k < 256 → n < 256 → ¬ C k = 0 → ho (k * 256 + n) = cd_h lv (C k) k n)
    (h0 : cd_t lv C d 256 ≤ p → post (-1)) (h1 : ∀ i, i < 256 → ¬ cd_h lv (C i) i d = 0 → cd_t lv C d i = p → post (nI i)) :
    ∃ n, wY_keyAt_30 post (nI d) (nI p) mn mk rp pe lv (fun j => nI (cd_q (C j))) va ho 65536 n 0 0 := by
  refine cd_lp (fun n i => wY_keyAt_30 post (nI d) (nI p) mn mk rp pe lv (fun j => nI (cd_q (C j))) va ho 65536 n (nI (cd_t lv C d i)) (nI i)) (fun i => cd_t lv C d i ≤ p) 256
    (Nat.zero_le _) (fun n h => br_t cd_ge (h0 h)) (fun n i hi hI hW => br_f (cd_nge hi) ⟨cd_vi hi, ?_⟩)
  rw [cd_cl (by omega : i < 65536), cd_ix, cd_cl (by omega : i * 256 + d < 65536)]
  by_cases c0 : C i = 0
  · have z : cd_h lv (C i) i d = 0 := by
      rw [c0]
      exact cd_hz _ _ _
    refine br_t (cd_qI c0) (nm_r (nI_1 i) ?_)
    have e := cd_tf z
    rw [← e]
    exact hW (by omega)
  · have ev := hh i d hi hd c0
    refine br_f (cd_qJ c0) ⟨cd_vh (by omega), ?_⟩
    by_cases z : cd_h lv (C i) i d = 0
    · refine br_t (ev.trans z) (nm_r (nI_1 i) ?_)
      have e := cd_tf z
      rw [← e]
      exact hW (by omega)
    · have cl := cd_tl lv C d i
      refine br_f (by rw [ev]; exact z) (pk_eq (cd_t lv C d i) p (fun q => h1 i hi z q) (fun q => nm_r (nI_1 _) (nm_r (nI_1 i) ?_)))
      have e := cd_tt z
      rw [← e]
      exact hW (by omega)
theorem cy_from {post : Int32 → Prop} {k : Nat} (hk : k < 256) (h0 : cd_c lv k 256 ≤ 0 → post (-1))
    (h1 : ∀ d, d < 256 → ¬ lv ((k + d) % 256) = 0 → cd_c lv k d = 0 → post (nI ((k + d) % 256))) :
    ∃ n, wY_lookup_29 post (nI k) mn mk rp pe lv st va ho 65536 n 0 := by
  refine cd_lp (fun n i => wY_lookup_29 post (nI k) mn mk rp pe lv st va ho 65536 n (nI i)) (fun i => cd_c lv k i ≤ 0) 256
    (Nat.zero_le _) (fun n h => br_t cd_ge (h0 h)) (fun n i hi hI hW => br_f (cd_nge hi) ⟨cd_n256, nm_r (cd_md hk hi) ?_⟩)
  have ml : (k + i) % 256 < 256 := Nat.mod_lt _ (by decide)
  rw [cd_cl (by omega : (k + i) % 256 < 65536)]
  refine ⟨cd_vi ml, ?_⟩
  by_cases z : lv ((k + i) % 256) = 0
  · refine br_t z (nm_r (nI_1 i) (hW ?_))
    have e := cd_cf z
    omega
  · exact br_f z (h1 i hi z (by omega))
theorem cy_holder {post : Int32 → Prop} {k p m : Nat} (hk : k < 256) (hp : p < 2 ^ 31) (hh : ∀ n, n < 256 → ho (k * 256 + n) = cd_h lv m k n)
    (h0 : min (cd_c lv k 256) m ≤ p → post (-1))
    (h1 : ∀ d, d < 256 → ¬ lv ((k + d) % 256) = 0 → cd_c lv k d < m → cd_c lv k d = p → post (nI ((k + d) % 256))) :
    ∃ n, wY_holderAt_28 post (nI k) (nI p) mn mk rp pe lv st va ho 65536 n 0 0 := by
  have key : ∃ n, wY_holderAt_28 post (nI k) (nI p) mn mk rp pe lv st va ho 65536 n (nI (min (cd_c lv k 0) m)) (nI 0) := by
    refine cd_lp (fun n i => wY_holderAt_28 post (nI k) (nI p) mn mk rp pe lv st va ho 65536 n (nI (min (cd_c lv k i) m)) (nI i)) (fun i => min (cd_c lv k i) m ≤ p) 256
      (Nat.le_trans (Nat.min_le_left _ _) (Nat.zero_le _)) (fun n h => br_t cd_ge (h0 h)) (fun n i hi hI hW => br_f (cd_nge hi) ⟨cd_n256, nm_r (cd_md hk hi) ?_⟩)
    have ml : (k + i) % 256 < 256 := Nat.mod_lt _ (by decide)
    have cl := cd_cle lv k i
    have ev := hh ((k + i) % 256) ml
    rw [cd_ix, cd_cl (by omega : k * 256 + (k + i) % 256 < 65536)]
    refine ⟨cd_vh (by omega), ?_⟩
    by_cases z : lv ((k + i) % 256) = 0
    · refine br_t (ev.trans (cd_hd z)) (nm_r (nI_1 i) ?_)
      have e := cd_cf z
      rw [← e]
      exact hW (by rw [e]; exact hI)
    · have e := cd_ct z
      by_cases y : cd_c lv k i < m
      · refine br_f (by rw [ev, cd_hst hk hi z y]; exact cd_one) (pk_eq (min (cd_c lv k i) m) p (fun q => h1 i hi z y (by omega)) (fun q => nm_r (nI_1 _) (nm_r (nI_1 i) ?_)))
        have e2 : min (cd_c lv k i) m + 1 = min (cd_c lv k (i + 1)) m := by omega
        rw [e2]
        exact hW (by omega)
      · refine br_t (ev.trans (cd_hsf hk hi y)) (nm_r (nI_1 i) ?_)
        have e2 : min (cd_c lv k i) m = min (cd_c lv k (i + 1)) m := by omega
        rw [e2]
        exact hW (by omega)
  have e0 : min (cd_c lv k 0) m = 0 := Nat.zero_min m
  rw [e0] at key
  exact key
end
