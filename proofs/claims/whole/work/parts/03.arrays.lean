/-! arrays as functions: what the loops leave behind -/
/-- block k of hold after d steps of setTop -/
def cd_sp (lv : Nat → Int32) (c k : Nat) (ho : Nat → Int32) (d j : Nat) : Int32 :=
  if j / 256 = k ∧ cd_d k (j % 256) < d then cd_h lv c k (j % 256) else ho j
def cd_st (lv : Nat → Int32) (c k : Nat) (ho : Nat → Int32) (j : Nat) : Int32 :=
  if j / 256 = k then cd_h lv c k (j % 256) else ho j
theorem cd_blk {k n : Nat} (hn : n < 256) : (k * 256 + n) / 256 = k ∧ (k * 256 + n) % 256 = n := by omega
theorem cd_sp0 (lv : Nat → Int32) (c k : Nat) (ho : Nat → Int32) : cd_sp lv c k ho 0 = ho := by
  funext j
  exact if_neg (fun h => absurd h.2 (Nat.not_lt_zero _))
theorem cd_spe (lv : Nat → Int32) (c k : Nat) (ho : Nat → Int32) : cd_sp lv c k ho 256 = cd_st lv c k ho := by
  funext j
  unfold cd_sp cd_st
  by_cases q : j / 256 = k
  · rw [if_pos ⟨q, cd_dl _ _⟩, if_pos q]
  · have q2 : ¬ (j / 256 = k ∧ cd_d k (j % 256) < 256) := fun h => q h.1
    rw [if_neg q2, if_neg q]
theorem cd_spr (lv : Nat → Int32) {c k : Nat} (ho : Nat → Int32) {d : Nat} (hk : k < 256) (hd : d < 256) :
    cd_sp lv c k ho d (k * 256 + (k + d) % 256) = ho (k * 256 + (k + d) % 256) := by
  have hb := cd_blk (k := k) (n := (k + d) % 256) (Nat.mod_lt _ (by decide))
  refine if_neg (fun h => ?_)
  have h2 := h.2
  rw [hb.2, cd_dd hk hd] at h2
  exact absurd h2 (Nat.lt_irrefl _)
theorem cd_sps (lv : Nat → Int32) {c k : Nat} (ho : Nat → Int32) {d : Nat} (hk : k < 256) (hd : d < 256) :
    upd (cd_sp lv c k ho d) (k * 256 + (k + d) % 256) (cd_h lv c k ((k + d) % 256)) = cd_sp lv c k ho (d + 1) := by
  have hb := cd_blk (k := k) (n := (k + d) % 256) (Nat.mod_lt _ (by decide))
  funext j
  by_cases q : j = k * 256 + (k + d) % 256
  · rw [q, pk_us]
    unfold cd_sp
    rw [hb.1, hb.2, cd_dd hk hd, if_pos ⟨rfl, Nat.lt_succ_self d⟩]
  · rw [pk_un q]
    unfold cd_sp
    by_cases y : j / 256 = k ∧ cd_d k (j % 256) < d
    · rw [if_pos y, if_pos ⟨y.1, by have := y.2; omega⟩]
    · rw [if_neg y]
      refine (if_neg (fun h => ?_)).symm
      apply y
      refine ⟨h.1, ?_⟩
      have h2 := h.2
      have ne : cd_d k (j % 256) ≠ d := by
        intro e
        apply q
        have dn := cd_dn hk (Nat.mod_lt j (by decide) : j % 256 < 256)
        rw [e] at dn
        have h1 := h.1
        omega
      omega
theorem cd_stb {lv : Nat → Int32} {c k : Nat} {ho : Nat → Int32} {n : Nat} (hn : n < 256) : cd_st lv c k ho (k * 256 + n) = cd_h lv c k n := by
  have hb := cd_blk (k := k) hn
  unfold cd_st
  rw [hb.1, hb.2, if_pos rfl]
theorem cd_sto {lv : Nat → Int32} {c k : Nat} {ho : Nat → Int32} {m n : Nat} (hn : n < 256) (h : m ≠ k) : cd_st lv c k ho (m * 256 + n) = ho (m * 256 + n) := by
  have hb := cd_blk (k := m) hn
  unfold cd_st
  rw [hb.1, if_neg h]
/-- block k of hold after n steps of dropKey -/
def cd_dp (k : Nat) (ho : Nat → Int32) (n j : Nat) : Int32 := if j / 256 = k ∧ j % 256 < n then 0 else ho j
def cd_dk (k : Nat) (ho : Nat → Int32) (j : Nat) : Int32 := if j / 256 = k then 0 else ho j
theorem cd_dp0 (k : Nat) (ho : Nat → Int32) : cd_dp k ho 0 = ho := by
  funext j
  exact if_neg (fun h => absurd h.2 (Nat.not_lt_zero _))
theorem cd_dpe (k : Nat) (ho : Nat → Int32) : cd_dp k ho 256 = cd_dk k ho := by
  funext j
  unfold cd_dp cd_dk
  by_cases q : j / 256 = k
  · rw [if_pos ⟨q, Nat.mod_lt _ (by decide)⟩, if_pos q]
  · have q2 : ¬ (j / 256 = k ∧ j % 256 < 256) := fun h => q h.1
    rw [if_neg q2, if_neg q]
theorem cd_dps (k : Nat) (ho : Nat → Int32) {n : Nat} (hn : n < 256) : upd (cd_dp k ho n) (k * 256 + n) 0 = cd_dp k ho (n + 1) := by
  have hb := cd_blk (k := k) hn
  funext j
  by_cases q : j = k * 256 + n
  · rw [q, pk_us]
    unfold cd_dp
    rw [hb.1, hb.2, if_pos ⟨rfl, Nat.lt_succ_self n⟩]
  · rw [pk_un q]
    unfold cd_dp
    by_cases y : j / 256 = k ∧ j % 256 < n
    · rw [if_pos y, if_pos ⟨y.1, by have := y.2; omega⟩]
    · rw [if_neg y]
      refine (if_neg (fun h => ?_)).symm
      apply y
      have h1 := h.1
      have h2 := h.2
      omega
theorem cd_dko {k : Nat} {ho : Nat → Int32} {m n : Nat} (hn : n < 256) (h : m ≠ k) : cd_dk k ho (m * 256 + n) = ho (m * 256 + n) := by
  have hb := cd_blk (k := m) hn
  unfold cd_dk
  rw [hb.1, if_neg h]
/-- hold after i keys of repair, some node live -/
def cd_rp (lv : Nat → Int32) (c : Nat) (C : Nat → Nat) (ho : Nat → Int32) (i j : Nat) : Int32 :=
  if j / 256 < i ∧ ¬ C (j / 256) = 0 then cd_h lv c (j / 256) (j % 256) else ho j
theorem cd_rp0 (lv : Nat → Int32) (c : Nat) (C : Nat → Nat) (ho : Nat → Int32) : cd_rp lv c C ho 0 = ho := by
  funext j
  exact if_neg (fun h => absurd h.1 (Nat.not_lt_zero _))
theorem cd_rpf (lv : Nat → Int32) {c : Nat} {C : Nat → Nat} (ho : Nat → Int32) {i : Nat} (h : C i = 0) : cd_rp lv c C ho i = cd_rp lv c C ho (i + 1) := by
  funext j
  unfold cd_rp
  by_cases y : j / 256 < i ∧ ¬ C (j / 256) = 0
  · rw [if_pos y, if_pos ⟨by have := y.1; omega, y.2⟩]
  · rw [if_neg y]
    refine (if_neg (fun g => ?_)).symm
    apply y
    refine ⟨?_, g.2⟩
    have g1 := g.1
    have ne : j / 256 ≠ i := by
      intro e
      apply g.2
      rw [e]
      exact h
    omega
theorem cd_rpt (lv : Nat → Int32) {c : Nat} {C : Nat → Nat} (ho : Nat → Int32) {i : Nat} (h : ¬ C i = 0) : cd_st lv c i (cd_rp lv c C ho i) = cd_rp lv c C ho (i + 1) := by
  funext j
  unfold cd_st
  by_cases q : j / 256 = i
  · rw [if_pos q]
    unfold cd_rp
    rw [q, if_pos ⟨Nat.lt_succ_self i, h⟩]
  · rw [if_neg q]
    unfold cd_rp
    by_cases y : j / 256 < i ∧ ¬ C (j / 256) = 0
    · rw [if_pos y, if_pos ⟨by have := y.1; omega, y.2⟩]
    · rw [if_neg y]
      refine (if_neg (fun g => ?_)).symm
      apply y
      refine ⟨?_, g.2⟩
      have g1 := g.1
      omega
theorem cd_rpr (lv : Nat → Int32) {c : Nat} {C : Nat → Nat} (ho : Nat → Int32) {i n : Nat} (hn : n < 256) : cd_rp lv c C ho i (i * 256 + n) = ho (i * 256 + n) := by
  have hb := cd_blk (k := i) hn
  refine if_neg (fun h => ?_)
  have h1 := h.1
  omega
theorem cd_rpb (lv : Nat → Int32) {c : Nat} {C : Nat → Nat} (ho : Nat → Int32) {k n : Nat} (hk : k < 256) (hn : n < 256) (h : ¬ C k = 0) : cd_rp lv c C ho 256 (k * 256 + n) = cd_h lv c k n := by
  have hb := cd_blk (k := k) hn
  unfold cd_rp
  rw [hb.1, hb.2, if_pos ⟨hk, h⟩]
/-! the numbers of copies -/
def cd_u (C : Nat → Nat) (k x j : Nat) : Nat := if j = k then x else C j
theorem cd_us {C : Nat → Nat} {k x : Nat} : cd_u C k x k = x := if_pos rfl
theorem cd_un {C : Nat → Nat} {k x j : Nat} (h : j ≠ k) : cd_u C k x j = C j := if_neg h
theorem cd_uI (C : Nat → Nat) (k x : Nat) : upd (fun j => nI (C j)) k (nI x) = fun j => nI (cd_u C k x j) := by
  funext j
  by_cases q : j = k
  · rw [q, pk_us, cd_us]
  · rw [pk_un q, cd_un q]
theorem cd_uQ (C : Nat → Nat) (k x : Nat) : upd (fun j => nI (cd_q (C j))) k (nI (cd_q x)) = fun j => nI (cd_q (cd_u C k x j)) := by
  funext j
  by_cases q : j = k
  · rw [q, pk_us, cd_us]
  · rw [pk_un q, cd_un q]
/-- copies after i keys of X's repair to m -/
def cd_x (C : Nat → Nat) (m i j : Nat) : Nat := if j < i ∧ ¬ C j = 0 then m else C j
theorem cd_x0 (C : Nat → Nat) (m : Nat) : cd_x C m 0 = C := by
  funext j
  exact if_neg (fun h => absurd h.1 (Nat.not_lt_zero _))
theorem cd_xr (C : Nat → Nat) (m i : Nat) : cd_x C m i i = C i := if_neg (fun h => absurd h.1 (Nat.lt_irrefl _))
theorem cd_xf {C : Nat → Nat} {m i : Nat} (h : C i = 0) : cd_x C m i = cd_x C m (i + 1) := by
  funext j
  unfold cd_x
  by_cases y : j < i ∧ ¬ C j = 0
  · rw [if_pos y, if_pos ⟨by have := y.1; omega, y.2⟩]
  · rw [if_neg y]
    refine (if_neg (fun g => ?_)).symm
    apply y
    refine ⟨?_, g.2⟩
    have g1 := g.1
    have ne : j ≠ i := by
      intro e
      apply g.2
      rw [e]
      exact h
    omega
theorem cd_xt {C : Nat → Nat} {m i : Nat} (h : ¬ C i = 0) : cd_u (cd_x C m i) i m = cd_x C m (i + 1) := by
  funext j
  by_cases q : j = i
  · rw [q, cd_us]
    exact (if_pos ⟨Nat.lt_succ_self i, h⟩).symm
  · rw [cd_un q]
    unfold cd_x
    by_cases y : j < i ∧ ¬ C j = 0
    · rw [if_pos y, if_pos ⟨by have := y.1; omega, y.2⟩]
    · rw [if_neg y]
      refine (if_neg (fun g => ?_)).symm
      apply y
      refine ⟨?_, g.2⟩
      have g1 := g.1
      omega
theorem cd_xin {C : Nat → Nat} {m j : Nat} (hj : j < 256) (h : ¬ C j = 0) : cd_x C m 256 j = m := if_pos ⟨hj, h⟩
theorem cd_xz {C : Nat → Nat} {m i j : Nat} (h : C j = 0) : cd_x C m i j = 0 := (if_neg (fun g => g.2 h)).trans h
theorem cd_xq (C : Nat → Nat) {m : Nat} (i : Nat) (hm : ¬ m = 0) (j : Nat) : cd_q (cd_x C m i j) = cd_q (C j) := by
  unfold cd_x
  by_cases y : j < i ∧ ¬ C j = 0
  · rw [if_pos y, cd_q1 hm, cd_q1 y.2]
  · rw [if_neg y]
/-- copies after i keys of the crash of node n -/
def cd_y (lv : Nat → Int32) (C : Nat → Nat) (n i j : Nat) : Nat := if j < i then C j - cd_b (cd_h lv (C j) j n) else C j
theorem cd_y0 (lv : Nat → Int32) (C : Nat → Nat) (n : Nat) : cd_y lv C n 0 = C := by
  funext j
  exact if_neg (Nat.not_lt_zero _)
theorem cd_yr (lv : Nat → Int32) (C : Nat → Nat) (n i : Nat) : cd_y lv C n i i = C i := if_neg (Nat.lt_irrefl _)
theorem cd_yin (lv : Nat → Int32) (C : Nat → Nat) (n : Nat) {i j : Nat} (h : j < i) : cd_y lv C n i j = C j - cd_b (cd_h lv (C j) j n) := if_pos h
theorem cd_yge (lv : Nat → Int32) (C : Nat → Nat) (n : Nat) {i j : Nat} (h : i ≤ j) : cd_y lv C n i j = C j := if_neg (by omega)
theorem cd_ys (lv : Nat → Int32) (C : Nat → Nat) (n i : Nat) : cd_u (cd_y lv C n i) i (C i - cd_b (cd_h lv (C i) i n)) = cd_y lv C n (i + 1) := by
  funext j
  by_cases q : j = i
  · rw [q, cd_us, cd_yin lv C n (Nat.lt_succ_self i)]
  · rw [cd_un q]
    by_cases y : j < i
    · rw [cd_yin lv C n y, cd_yin lv C n (by omega : j < i + 1)]
    · rw [cd_yge lv C n (by omega : i ≤ j), cd_yge lv C n (by omega : i + 1 ≤ j)]
theorem cd_yf {lv : Nat → Int32} {C : Nat → Nat} {n i : Nat} (h : cd_h lv (C i) i n = 0) : cd_y lv C n i = cd_y lv C n (i + 1) := by
  have e := cd_ys lv C n i
  rw [cd_b0 h] at e
  rw [← e]
  funext j
  by_cases q : j = i
  · rw [q, cd_us, cd_yr]
    rfl
  · rw [cd_un q]
/-- keys lost below i by the crash of node n -/
def cd_w (lv : Nat → Int32) (C : Nat → Nat) (n j : Nat) : Nat := cd_q (C j) - cd_q (C j - cd_b (cd_h lv (C j) j n))
def cd_l (lv : Nat → Int32) (C : Nat → Nat) (n i : Nat) : Nat := cd_s (cd_w lv C n) i
theorem cd_w0 {lv : Nat → Int32} {C : Nat → Nat} {n j : Nat} (h : cd_h lv (C j) j n = 0) : cd_w lv C n j = 0 := by
  unfold cd_w
  rw [cd_b0 h, Nat.sub_zero, Nat.sub_self]
theorem cd_wl (lv : Nat → Int32) (C : Nat → Nat) (n j : Nat) : cd_w lv C n j ≤ 1 := by
  unfold cd_w
  have := cd_ql (C j)
  omega
theorem cd_w1 {lv : Nat → Int32} {C : Nat → Nat} {n j : Nat} (h : ¬ cd_h lv (C j) j n = 0) (g : C j = 1) : cd_w lv C n j = 1 := by
  unfold cd_w
  rw [cd_b1 h, g]
  rfl
theorem cd_w2 {lv : Nat → Int32} {C : Nat → Nat} {n j : Nat} (h : ¬ cd_h lv (C j) j n = 0) (g : C j ≠ 1) : cd_w lv C n j = 0 := by
  have p := (cd_hi h).2
  unfold cd_w
  rw [cd_b1 h, cd_q1 (by omega : ¬ C j - 1 = 0)]
  have := cd_ql (C j)
  omega
theorem cd_ll (lv : Nat → Int32) (C : Nat → Nat) (n i : Nat) : cd_l lv C n i ≤ i := by
  have a := cd_sl (f := cd_w lv C n) (m := 1) i (fun j _ => cd_wl _ _ _ _)
  rw [Nat.mul_one] at a
  exact a
theorem cd_ln (lv : Nat → Int32) (C : Nat → Nat) (n : Nat) : cd_n C 256 = cd_n (cd_y lv C n 256) 256 + cd_l lv C n 256 := by
  apply cd_sa
  intro j hj
  show cd_q (C j) = cd_q (cd_y lv C n 256 j) + cd_w lv C n j
  rw [cd_yin lv C n hj]
  unfold cd_w
  by_cases z : C j - cd_b (cd_h lv (C j) j n) = 0
  · rw [cd_q0 z]
    omega
  · have z2 : ¬ C j = 0 := by omega
    rw [cd_q1 z, cd_q1 z2]
/-! a put and a removal in the number of stored keys -/
theorem cd_nu {C : Nat → Nat} {k x : Nat} (hk : k < 256) : cd_n (cd_u C k x) 256 + cd_q (C k) = cd_n C 256 + cd_q x := by
  have key : ∀ e, (e ≤ k → cd_n (cd_u C k x) e = cd_n C e) ∧ (k < e → cd_n (cd_u C k x) e + cd_q (C k) = cd_n C e + cd_q x) := by
    intro e
    induction e with
    | zero => exact ⟨fun _ => rfl, fun h => absurd h (Nat.not_lt_zero _)⟩
    | succ e ih =>
      have a : cd_n (cd_u C k x) (e + 1) = cd_n (cd_u C k x) e + cd_q (cd_u C k x e) := rfl
      have b : cd_n C (e + 1) = cd_n C e + cd_q (C e) := rfl
      by_cases q : e = k
      · subst q
        rw [cd_us] at a
        have i := ih.1 (Nat.le_refl _)
        exact ⟨fun h => by omega, fun _ => by omega⟩
      · rw [cd_un q] at a
        refine ⟨fun h => ?_, fun h => ?_⟩
        · have i := ih.1 (by omega)
          omega
        · have i := ih.2 (by omega)
          omega
  exact (key 256).2 hk
/-! numbers of the machine -/
theorem cd_256 : (256 : Int32) = nI 256 := by decide +kernel
theorem cd_ix (k n : Nat) : nI k * 256 + nI n = nI (k * 256 + n) := by
  rw [cd_256, pk_mul, nI_add]
theorem cd_md {k d : Nat} (hk : k < 256) (hd : d < 256) : nI k + nI d - (nI k + nI d) / 256 * 256 = nI ((k + d) % 256) := by
  rw [cd_256, nI_add]
  exact pk_rem (by omega) (by decide) (by decide)
theorem cd_sb {k n : Nat} (hk : k < 256) : nI n - nI k + 256 = nI (n + 256 - k) := by
  have e : nI (n + 256 - k) + nI k = nI n + nI 256 := by
    rw [nI_add, nI_add]
    exact congrArg nI (by omega)
  rw [cd_256]
  grind
theorem cd_ds {k n : Nat} (hk : k < 256) (hn : n < 256) : nI n - nI k + 256 - (nI n - nI k + 256) / 256 * 256 = nI (cd_d k n) := by
  rw [cd_sb hk, cd_256]
  exact pk_rem (by omega) (by decide) (by decide)
theorem cd_v0 : vp_nar .boolean 0 = 0 := by decide
theorem cd_v1 : vp_nar .boolean 1 = 1 := by decide
theorem cd_nb {z : Int32} (h : z = 0 ∨ z = 1) : narrow .boolean (.int z) = .int z := by
  rcases h with rfl | rfl <;> rfl
theorem cd_fb {z : Int32} (h : z = 0 ∨ z = 1) : fits .boolean (.int z) = true := by
  rcases h with rfl | rfl <;> rfl
theorem cd_vb {z : Int32} (h : z = 0 ∨ z = 1) : vp_nar .boolean z = z := by
  rcases h with rfl | rfl
  · exact cd_v0
  · exact cd_v1
/-! loops whose state the counter tells -/
theorem cd_lp (W : Nat → Nat → Prop) (I : Nat → Prop) (e : Nat) (h0 : I 0) (hx : ∀ n, I e → W (n + 1) e)
    (hs : ∀ n i, i < e → I i → (I (i + 1) → W n (i + 1)) → W (n + 1) i) : ∃ n, W n 0 :=
  loop_0 (fun n i (_ : Unit) => W n i) (fun i _ => I i) e () h0 (fun n _ h => hx n h) (fun n i _ hi h k => hs n i hi h (fun g => k () g))
theorem cd_lq (W : Nat → Nat → Prop) (e : Nat) (hx : ∀ n, W (n + 1) e) (hs : ∀ n i, i < e → W n (i + 1) → W (n + 1) i) : ∃ n, W n 0 :=
  cd_lp W (fun _ => True) e trivial (fun n _ => hx n) (fun n i hi _ k => hs n i hi (k trivial))
