/-! what a repair and a crash do to the relation -/
def cd_R (c : Nat) (lv vx : Nat → Int32) (C : Nat → Nat) (vy ho : Nat → Int32) : Prop :=
  (∀ j, j < 256 → C j ≤ min c (cd_c lv 0 256)) ∧ (∀ j, j < 256 → ¬ C j = 0 → vy j = vx j) ∧
  (∀ k n, k < 256 → n < 256 → ¬ C k = 0 → ho (k * 256 + n) = cd_h lv (C k) k n)
theorem cd_Rrep {c : Nat} {lv vx : Nat → Int32} {C : Nat → Nat} {vy ho : Nat → Int32} (hv : ∀ j, j < 256 → ¬ C j = 0 → vy j = vx j) :
    cd_R c lv vx (cd_x C (min c (cd_c lv 0 256)) 256) vy (cd_rp lv c C ho 256) := by
  refine ⟨fun j hj => ?_, fun j hj h => ?_, fun k n hk hn h => ?_⟩
  · by_cases z : C j = 0
    · rw [cd_xz z]
      exact Nat.zero_le _
    · rw [cd_xin hj z]
      exact Nat.le_refl _
  · exact hv j hj (fun z => h (cd_xz z))
  · have z : ¬ C k = 0 := fun z => h (cd_xz z)
    rw [cd_rpb lv ho hk hn z, cd_xin hk z, cd_hm hk hn]
theorem cd_Rz {c : Nat} {lv vx : Nat → Int32} {C : Nat → Nat} {vy ho : Nat → Int32} (h : ∀ j, j < 256 → C j = 0) : cd_R c lv vx C vy ho :=
  ⟨fun j hj => by rw [h j hj]; exact Nat.zero_le _, fun j hj z => absurd (h j hj) z, fun k n hk _ z => absurd (h k hk) z⟩
theorem cd_xn (C : Nat → Nat) {m : Nat} (hm : ¬ m = 0) : cd_n (cd_x C m 256) 256 = cd_n C 256 := cd_sc 256 (fun j _ => cd_xq C 256 hm j)
theorem cd_xnz {C : Nat → Nat} : ∀ j, j < 256 → cd_x C 0 256 j = 0 := by
  intro j hj
  by_cases z : C j = 0
  · exact cd_xz z
  · exact cd_xin hj z
theorem cd_nz {C : Nat → Nat} (h : ∀ j, j < 256 → C j = 0) : cd_n C 256 = 0 := cd_s0 256 (fun j hj => cd_q0 (h j hj))
/-- the crash of node d, keys below i done -/
def cd_J (lv : Nat → Int32) (C : Nat → Nat) (vy ho : Nat → Int32) (d i : Nat) (vy' ho' : Nat → Int32) : Prop :=
  (∀ j, j < 256 → ¬ cd_y lv C d i j = 0 → vy' j = vy j) ∧
  (∀ k n, k < 256 → n < 256 → k < i → ¬ cd_y lv C d i k = 0 → ho' (k * 256 + n) = cd_h (upd lv d 0) (cd_y lv C d i k) k n) ∧
  (∀ k n, k < 256 → n < 256 → i ≤ k → ho' (k * 256 + n) = ho (k * 256 + n))
theorem cd_J0 (lv : Nat → Int32) (C : Nat → Nat) (vy ho : Nat → Int32) (d : Nat) : cd_J lv C vy ho d 0 vy ho :=
  ⟨fun _ _ _ => rfl, fun _ _ _ _ z => absurd z (Nat.not_lt_zero _), fun _ _ _ _ _ => rfl⟩
theorem cd_blkne {k m n p : Nat} (hn : n < 256) (hp : p < 256) (h : k ≠ m ∨ n ≠ p) : k * 256 + n ≠ m * 256 + p := by omega
theorem cd_Ja {lv : Nat → Int32} {C : Nat → Nat} {vy ho : Nat → Int32} {d i : Nat} {vy' ho' : Nat → Int32} (hd : d < 256) (hi : i < 256) (hl : ¬ lv d = 0)
    (hh : cd_h lv (C i) i d = 0) (ho1 : ¬ C i = 0 → ∀ n, n < 256 → ho (i * 256 + n) = cd_h lv (C i) i n) (J : cd_J lv C vy ho d i vy' ho') :
    cd_J lv C vy ho d (i + 1) vy' ho' := by
  have e := cd_yf hh
  refine ⟨fun j hj z => ?_, fun k n hk hn z y => ?_, fun k n hk hn z => J.2.2 k n hk hn (by omega)⟩
  · rw [← e] at z
    exact J.1 j hj z
  · by_cases q : k = i
    · subst q
      rw [cd_yin lv C d z] at y ⊢
      have c1 : ¬ C k = 0 := by omega
      rw [J.2.2 k n hk hn (Nat.le_refl _), ho1 c1 n hn]
      obtain ⟨a1, a2⟩ := cd_crash (c := C k) hk hd hn hl
      by_cases w : n = d
      · rw [a1 w, w, hh]
      · rw [a2 w]
    · rw [← e] at y ⊢
      exact J.2.1 k n hk hn (by omega) y
theorem cd_Jb {lv : Nat → Int32} {C : Nat → Nat} {vy ho : Nat → Int32} {d i : Nat} {vy' ho' : Nat → Int32} (hd : d < 256)
    (hh : ¬ cd_h lv (C i) i d = 0) (c1 : C i = 1) (J : cd_J lv C vy ho d i vy' ho') :
    cd_J lv C vy ho d (i + 1) (upd vy' i 0) (cd_dk i (upd ho' (i * 256 + d) 0)) := by
  have z0 : cd_y lv C d (i + 1) i = 0 := by
    rw [cd_yin lv C d (Nat.lt_succ_self i), cd_b1 hh, c1]
  have ne : ∀ j, ¬ cd_y lv C d (i + 1) j = 0 → j ≠ i := by
    intro j h e
    rw [e] at h
    exact h z0
  have same : ∀ j, j ≠ i → cd_y lv C d (i + 1) j = cd_y lv C d i j := by
    intro j h
    rw [← cd_ys, cd_un h]
  refine ⟨fun j hj z => ?_, fun k n hk hn z y => ?_, fun k n hk hn z => ?_⟩
  · have q := ne j z
    rw [same j q] at z
    rw [pk_un q]
    exact J.1 j hj z
  · have q := ne k y
    rw [same k q] at y ⊢
    rw [cd_dko hn q, pk_un (cd_blkne hn hd (Or.inl q))]
    exact J.2.1 k n hk hn (by omega) y
  · have q : k ≠ i := by omega
    rw [cd_dko hn q, pk_un (cd_blkne hn hd (Or.inl q))]
    exact J.2.2 k n hk hn (by omega)
theorem cd_Jc {lv : Nat → Int32} {C : Nat → Nat} {vy ho : Nat → Int32} {d i : Nat} {vy' ho' : Nat → Int32} (hd : d < 256) (hl : ¬ lv d = 0)
    (hh : ¬ cd_h lv (C i) i d = 0) (ho1 : ∀ n, n < 256 → ho (i * 256 + n) = cd_h lv (C i) i n) (J : cd_J lv C vy ho d i vy' ho') :
    cd_J lv C vy ho d (i + 1) vy' (upd ho' (i * 256 + d) 0) := by
  have c0 := (cd_hi hh).2
  have same : ∀ j, j ≠ i → cd_y lv C d (i + 1) j = cd_y lv C d i j := by
    intro j h
    rw [← cd_ys, cd_un h]
  refine ⟨fun j hj z => ?_, fun k n hk hn z y => ?_, fun k n hk hn z => ?_⟩
  · refine J.1 j hj ?_
    by_cases q : j = i
    · rw [q, cd_yr]
      omega
    · rw [same j q] at z
      exact z
  · by_cases q : k = i
    · subst q
      rw [cd_yin lv C d z]
      obtain ⟨a1, a2⟩ := cd_crash (c := C k) hk hd hn hl
      by_cases w : n = d
      · rw [a1 w, w, pk_us]
      · rw [a2 w, pk_un (cd_blkne hn hd (Or.inr w)), J.2.2 k n hk hn (Nat.le_refl _), ho1 n hn]
    · rw [same k q] at y ⊢
      rw [pk_un (cd_blkne hn hd (Or.inl q))]
      exact J.2.1 k n hk hn (by omega) y
  · rw [pk_un (cd_blkne hn hd (Or.inl (by omega)))]
    exact J.2.2 k n hk hn (by omega)
theorem cd_any {lv : Nat → Int32} {C : Nat → Nat} {vy ho : Nat → Int32} {d i : Nat} {vy' ho' : Nat → Int32} (hd : d < 256) (hi : i < 256)
    (hc : C i ≤ cd_c lv 0 256) (hh : ¬ cd_h lv (C i) i d = 0) (ho1 : ∀ n, n < 256 → ho (i * 256 + n) = cd_h lv (C i) i n) (J : cd_J lv C vy ho d i vy' ho') :
    (C i = 1 → ∀ n, n < 256 → upd ho' (i * 256 + d) 0 (i * 256 + n) = 0) ∧ (C i ≠ 1 → ∃ n, n < 256 ∧ ¬ upd ho' (i * 256 + d) 0 (i * 256 + n) = 0) := by
  obtain ⟨o1, o2⟩ := cd_other hi hd hc hh
  refine ⟨fun c1 n hn => ?_, fun c1 => ?_⟩
  · by_cases w : n = d
    · rw [w, pk_us]
    · rw [pk_un (cd_blkne hn hd (Or.inr w)), J.2.2 i n hi hn (Nat.le_refl _), ho1 n hn]
      exact o1 c1 n hn w
  · obtain ⟨n, hn, w, g⟩ := o2 c1
    refine ⟨n, hn, ?_⟩
    rw [pk_un (cd_blkne hn hd (Or.inr w)), J.2.2 i n hi hn (Nat.le_refl _), ho1 n hn]
    exact g
theorem cd_Rcr {c : Nat} {lv vx : Nat → Int32} {C : Nat → Nat} {vy ho : Nat → Int32} {d : Nat} {vy' ho' : Nat → Int32} (hd : d < 256) (hl : ¬ lv d = 0)
    (R : cd_R c lv vx C vy ho) (J : cd_J lv C vy ho d 256 vy' ho') : cd_R c (upd lv d 0) vx (cd_y lv C d 256) vy' ho' := by
  refine ⟨fun j hj => ?_, fun j hj z => ?_, fun k n hk hn z => J.2.1 k n hk hn hk z⟩
  · rw [cd_yin lv C d hj]
    exact cd_crashC hj hd hl (R.1 j hj)
  · have z2 := z
    rw [cd_yin lv C d hj] at z2
    rw [J.1 j hj z]
    exact R.2.1 j hj (by omega)
