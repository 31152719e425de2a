/-! the relation, and what keeps it -/
/-- both sides share capacities, live nodes, crash counter; C k is the number of holders of key k, 0 where it is not stored; the holders are the first C k live nodes clockwise from k -/
def i_Rel (_ : Nat) (u : SX) (v : SY) : Prop :=
  ∃ (a b c : Nat) (cr : Int32) (lv vx : Nat → Int32) (C : Nat → Nat) (vy ho : Nat → Int32),
    u = (nI a, nI b, nI c, nI (cd_c lv 0 256), nI (cd_n C 256), cr, lv, vx, fun j => nI (C j)) ∧
    v = (nI a, nI b, nI c, cr, lv, (fun j => nI (cd_q (C j))), vy, ho, 65536) ∧
    a < 65536 ∧ b < 65536 ∧ 0 < c ∧ c < 65536 ∧ cd_R c lv vx C vy ho
theorem cd_rg (x : Int32) : (x < 0 ∨ nI 256 ≤ x) ∨ ∃ j : Nat, j < 256 ∧ x = nI j := by
  rcases pk_ix x (n := 256) (by decide) with h | h | h
  · exact Or.inl (Or.inl h)
  · exact Or.inl (Or.inr h)
  · exact Or.inr h
theorem cd_clamp (p : Int32) {lo hi : Int32} {x y : Nat} (hlo : lo = nI x) (hhi : hi = nI y) (hx : 0 < x) (xy : x ≤ y) (hy : y < 65536) :
    ∃ a : Nat, 0 < a ∧ a < 65536 ∧ (∀ post : Int32 → Prop, post (nI a) → wpX_clamp post p lo hi) ∧
      (∀ F : Int32 → Prop, F (nI a) → ((lo ≤ p → ((p ≤ hi → F p) ∧ (¬ p ≤ hi → F hi))) ∧ (¬ lo ≤ p → F lo))) := by
  by_cases h : lo ≤ p
  · by_cases g : p ≤ hi
    · have n0 : ¬ p < 0 := by
        intro w
        rw [hlo, Int32.le_iff_toInt_le, nI_toInt (by omega)] at h
        rw [Int32.lt_iff_toInt_lt, show (0 : Int32).toInt = 0 from by decide] at w
        omega
      obtain ⟨j, hj, rfl⟩ := nI_of n0
      have h2 := h
      have g2 := g
      rw [hlo, nI_leI (by omega) hj] at h2
      rw [hhi, nI_leI hj (by omega)] at g2
      exact ⟨j, by omega, by omega, fun post f => br_t h (br_t g f), fun F f => br_t h (br_t g f)⟩
    · exact ⟨y, by omega, by omega, fun post f => br_t h (br_f g (by rw [hhi]; exact f)), fun F f => br_t h (br_f g (by rw [hhi]; exact f))⟩
  · exact ⟨x, by omega, by omega, fun post f => br_f h (by rw [hlo]; exact f), fun F f => br_f h (by rw [hlo]; exact f)⟩
theorem cd_c0 (k : Nat) : ∀ d, cd_c (fun _ => 0) k d = 0 := by
  intro d
  induction d with
  | zero => rfl
  | succ d ih =>
    rw [cd_cf rfl]
    exact ih
section
variable {k a b c : Nat} {cr : Int32} {lv vx : Nat → Int32} {C : Nat → Nat} {vy ho : Nat → Int32}
theorem cr_C (R : cd_R c lv vx C vy ho) : ∀ j, j < 256 → C j < 65536 := by
  intro j hj
  have a := R.1 j hj
  have b := cd_cle lv 0 256
  omega
theorem cr_rep (ha : a < 65536) (hb : b < 65536) (hc0 : 0 < c) (hc : c < 65536) (hl : ¬ cd_c lv 0 256 = 0) (hv : ∀ j, j < 256 → ¬ C j = 0 → vy j = vx j) :
    i_Rel k (nI a, nI b, nI c, nI (cd_c lv 0 256), nI (cd_n C 256), 0, lv, vx, fun j => nI (cd_x C (min c (cd_c lv 0 256)) 256 j))
      (nI a, nI b, nI c, 0, lv, (fun j => nI (cd_q (C j))), vy, cd_rp lv c C ho 256, 65536) := by
  have hm : ¬ min c (cd_c lv 0 256) = 0 := by omega
  have e : (fun j => nI (cd_q (C j))) = fun j => nI (cd_q (cd_x C (min c (cd_c lv 0 256)) 256 j)) := by
    funext j
    rw [cd_xq C 256 hm]
  refine ⟨a, b, c, 0, lv, vx, cd_x C (min c (cd_c lv 0 256)) 256, vy, cd_rp lv c C ho 256, ?_, ?_, ha, hb, hc0, hc, cd_Rrep hv⟩
  · rw [cd_xn C hm]
  · rw [e]
theorem cr_rep0 {vy' ho' : Nat → Int32} (ha : a < 65536) (hb : b < 65536) (hc0 : 0 < c) (hc : c < 65536) (hl : cd_c lv 0 256 = 0) :
    i_Rel k (nI a, nI b, nI c, nI (cd_c lv 0 256), 0, 0, lv, vx, fun j => nI (cd_x C (min c (cd_c lv 0 256)) 256 j))
      (nI a, nI b, nI c, 0, lv, (fun j => nI (cd_q (cd_x C 0 256 j))), vy', ho', 65536) := by
  have hm : min c (cd_c lv 0 256) = 0 := by omega
  refine ⟨a, b, c, 0, lv, vx, cd_x C 0 256, vy', ho', ?_, rfl, ha, hb, hc0, hc, cd_Rz cd_xnz⟩
  rw [hm, cd_nz (C := cd_x C 0 256) cd_xnz]
  rfl
theorem cr_put {j : Nat} {x : Int32} (hj : j < 256) (ha : a < 65536) (hb : b < 65536) (hc0 : 0 < c) (hc : c < 65536) (hl : ¬ cd_c lv 0 256 = 0) (R : cd_R c lv vx C vy ho) :
    i_Rel k (nI a, nI b, nI c, nI (cd_c lv 0 256), nI (cd_n (cd_u C j (min c (cd_c lv 0 256))) 256), cr, lv, upd vx j x, upd (fun i => nI (C i)) j (nI (min c (cd_c lv 0 256))))
      (nI a, nI b, nI c, cr, lv, upd (fun i => nI (cd_q (C i))) j 1, upd vy j x, cd_st lv c j ho, 65536) := by
  have hm : ¬ min c (cd_c lv 0 256) = 0 := by omega
  have e : upd (fun i => nI (cd_q (C i))) j 1 = fun i => nI (cd_q (cd_u C j (min c (cd_c lv 0 256)) i)) := by
    rw [← cd_uQ C j, cd_q1 hm]
    rfl
  refine ⟨a, b, c, cr, lv, upd vx j x, cd_u C j (min c (cd_c lv 0 256)), upd vy j x, cd_st lv c j ho, ?_, ?_, ha, hb, hc0, hc, ?_⟩
  · rw [cd_uI]
  · rw [e]
  · refine ⟨fun i hi => ?_, fun i hi z => ?_, fun i n hi hn z => ?_⟩
    · by_cases q : i = j
      · rw [q, cd_us]
        exact Nat.le_refl _
      · rw [cd_un q]
        exact R.1 i hi
    · by_cases q : i = j
      · rw [q, pk_us, pk_us]
      · rw [cd_un q] at z
        rw [pk_un q, pk_un q]
        exact R.2.1 i hi z
    · by_cases q : i = j
      · subst q
        rw [cd_us, cd_stb hn, cd_hm hi hn]
      · rw [cd_un q] at z ⊢
        rw [cd_sto hn q]
        exact R.2.2 i n hi hn z
theorem cr_rem {j : Nat} (hj : j < 256) (ha : a < 65536) (hb : b < 65536) (hc0 : 0 < c) (hc : c < 65536) (hC : ¬ C j = 0) (R : cd_R c lv vx C vy ho) :
    i_Rel k (nI a, nI b, nI c, nI (cd_c lv 0 256), nI (cd_n C 256) - 1, cr, lv, vx, upd (fun i => nI (C i)) j 0)
      (nI a, nI b, nI c, cr, lv, upd (fun i => nI (cd_q (C i))) j 0, upd vy j 0, cd_dk j ho, 65536) := by
  have e : upd (fun i => nI (cd_q (C i))) j 0 = fun i => nI (cd_q (cd_u C j 0 i)) := cd_uQ C j 0
  have e1 : upd (fun i => nI (C i)) j 0 = fun i => nI (cd_u C j 0 i) := cd_uI C j 0
  have nu := cd_nu (C := C) (k := j) (x := 0) hj
  have q0 : cd_q 0 = 0 := rfl
  have q1 := cd_q1 hC
  have e2 : nI (cd_n C 256) - 1 = nI (cd_n (cd_u C j 0) 256) := by
    rw [cd_p1 (by omega)]
    exact congrArg nI (by omega)
  refine ⟨a, b, c, cr, lv, vx, cd_u C j 0, upd vy j 0, cd_dk j ho, ?_, ?_, ha, hb, hc0, hc, ?_⟩
  · rw [e1, e2]
  · rw [e]
  · have ne : ∀ i, ¬ cd_u C j 0 i = 0 → i ≠ j := by
      intro i z q
      rw [q, cd_us] at z
      exact z rfl
    refine ⟨fun i hi => ?_, fun i hi z => ?_, fun i n hi hn z => ?_⟩
    · by_cases q : i = j
      · rw [q, cd_us]
        exact Nat.zero_le _
      · rw [cd_un q]
        exact R.1 i hi
    · have q := ne i z
      rw [cd_un q] at z
      rw [pk_un q]
      exact R.2.1 i hi z
    · have q := ne i z
      rw [cd_un q] at z ⊢
      rw [cd_dko hn q]
      exact R.2.2 i n hi hn z
theorem cr_crash {d : Nat} {vy' ho' : Nat → Int32} (hd : d < 256) (hl : ¬ lv d = 0) (ha : a < 65536) (hb : b < 65536) (hc0 : 0 < c) (hc : c < 65536) (R : cd_R c lv vx C vy ho) (J : cd_J lv C vy ho d 256 vy' ho') :
    i_Rel k (nI a, nI b, nI c, nI (cd_c lv 0 256) - 1, nI (cd_n C 256) - nI (cd_l lv C d 256), cr, upd lv d 0, vx, fun j => nI (cd_y lv C d 256 j))
      (nI a, nI b, nI c, cr, upd lv d 0, (fun j => nI (cd_q (cd_y lv C d 256 j))), vy', ho', 65536) := by
  have e1 := cd_rmN hd hl
  have e2 := cd_ln lv C d
  refine ⟨a, b, c, cr, upd lv d 0, vx, cd_y lv C d 256, vy', ho', ?_, rfl, ha, hb, hc0, hc, cd_Rcr hd hl R J⟩
  rw [cd_p1 (by omega), pk_sub (by omega), e1, e2, Nat.add_sub_cancel, Nat.add_sub_cancel]
theorem cr_created (R : cd_R c lv vx C vy ho) : cd_s (cd_z lv c C ho) 256 = cd_s (cd_g C (min c (cd_c lv 0 256))) 256 := by
  apply cd_sc
  intro k hk
  by_cases z : C k = 0
  · rw [cd_z0 z, cd_g0 z]
  · rw [cd_z1 z, cd_g1 z]
    exact cd_rw hk (R.1 k hk) (fun n hn => R.2.2 k n hk hn z)
theorem cr_none (R : cd_R c lv vx C vy ho) (hl : cd_c lv 0 256 = 0) : cd_s (cd_g C (min c (cd_c lv 0 256))) 256 = 0 := by
  apply cd_s0
  intro k hk
  have a := R.1 k hk
  exact cd_g0 (by omega)
theorem cd_tuniq {d i j : Nat} (h : ¬ cd_h lv (C i) i d = 0) (g : ¬ cd_h lv (C j) j d = 0) (e : cd_t lv C d i = cd_t lv C d j) : i = j := by
  have a := cd_tt h
  have b := cd_tt g
  rcases Nat.lt_trichotomy i j with q | q | q
  · have m : cd_t lv C d (i + 1) ≤ cd_t lv C d j := cd_smono j (i + 1) q
    omega
  · exact q
  · have m : cd_t lv C d (j + 1) ≤ cd_t lv C d i := cd_smono i (j + 1) q
    omega
theorem cd_tlt {d i : Nat} (hi : i < 256) (h : ¬ cd_h lv (C i) i d = 0) : cd_t lv C d i < cd_t lv C d 256 := by
  have a := cd_tt h
  have m : cd_t lv C d (i + 1) ≤ cd_t lv C d 256 := cd_smono 256 (i + 1) hi
  omega
theorem cy_keysAt {mn mk rp pe : Int32} {va : Nat → Int32} {post : Int32 → Prop} {d : Nat} (hd : d < 256) (hh : ∀ k n, k < 256 → n < 256 → ¬ C k = 0 → ho (k * 256 + n) = cd_h lv (C k) k n)
    (h : post (nI (cd_t lv C d 256))) : wpY_keysAt post (mn, mk, rp, pe, lv, (fun j => nI (cd_q (C j))), va, ho, 65536) (nI d) := by
  unfold wpY_keysAt
  dsimp only
  refine cy_in hd (br_f cd_one ?_)
  rw [cd_cl (by omega : d < 65536)]
  refine ⟨cd_vi hd, br_c (fun z => ?_) (fun z => cy_keys hd hh h)⟩
  rw [cd_tz z] at h
  exact h
end
