section
theorem pk_us {f : Nat → Int32} {k : Nat} {x : Int32} : upd f k x k = x := if_pos rfl
theorem pk_un {f : Nat → Int32} {k j : Nat} {x : Int32} (h : j ≠ k) : upd f k x j = f j := if_neg h
theorem pk_sub {a b : Nat} (h : b ≤ a) : nI a - nI b = nI (a - b) := by
  obtain ⟨c, rfl⟩ : ∃ c, a = c + b := ⟨a - b, by omega⟩
  rw [← nI_add, Int32.add_sub_cancel, Nat.add_sub_cancel]
theorem pk_m1 (n : Nat) : nI (n + 1) + (-1) = nI n := by
  rw [← nI_1, Int32.add_assoc, show (1 : Int32) + (-1) = 0 from rfl, Int32.add_zero]
theorem pk_mul (a b : Nat) : nI a * nI b = nI (a * b) := (Int32.ofNat_mul a b).symm
theorem pk_div {a d : Nat} (ha : a < 2 ^ 31) (h0 : 0 < d) (hd : d < 2 ^ 31) : nI a / nI d = nI (a / d) := by
  apply Int32.toInt_inj.mp
  rw [lg_idiv_nonneg (by rw [nI_toInt ha]; omega) (by rw [nI_toInt hd]; omega), nI_toInt ha, nI_toInt hd, nI_toInt (Nat.lt_of_le_of_lt (Nat.div_le_self a d) ha)]
  first | rfl | exact (Int.natCast_ediv _ _).symm
theorem pk_rem {a d : Nat} (ha : a < 2 ^ 31) (h0 : 0 < d) (hd : d < 2 ^ 31) : nI a - nI a / nI d * nI d = nI (a % d) := by
  rw [pk_div ha h0 hd, pk_mul, pk_sub (Nat.div_mul_le_self a d)]
  exact congrArg nI (by have := Nat.div_add_mod' a d; omega)
theorem pk_ix (x : Int32) {n : Nat} (hn : n < 2 ^ 31) : x < 0 ∨ nI n ≤ x ∨ ∃ j : Nat, j < n ∧ x = nI j := by
  by_cases h : x < 0
  · exact Or.inl h
  · obtain ⟨j, hj, rfl⟩ := nI_of h
    by_cases h2 : j < n
    · exact Or.inr (Or.inr ⟨j, h2, rfl⟩)
    · exact Or.inr (Or.inl (nI_le (by omega) hj))
theorem pk_le {x y : Int32} {A B : Prop} (a b : Nat) (f : a ≤ b → A) (g : b < a → B) (hx : x = nI a := by rfl) (hy : y = nI b := by rfl) (ha : a < 2 ^ 31 := by omega) (hb : b < 2 ^ 31 := by omega) : (x ≤ y → A) ∧ (¬ x ≤ y → B) := by
  subst hx hy
  rw [nI_leI ha hb]
  exact ⟨f, fun z => g (by omega)⟩
theorem pk_lt {x y : Int32} {A B : Prop} (a b : Nat) (f : a < b → A) (g : b ≤ a → B) (hx : x = nI a := by rfl) (hy : y = nI b := by rfl) (ha : a < 2 ^ 31 := by omega) (hb : b < 2 ^ 31 := by omega) : (x < y → A) ∧ (¬ x < y → B) := by
  subst hx hy
  rw [nI_ltI ha hb]
  exact ⟨f, fun z => g (by omega)⟩
theorem pk_eq {x y : Int32} {A B : Prop} (a b : Nat) (f : a = b → A) (g : a ≠ b → B) (hx : x = nI a := by rfl) (hy : y = nI b := by rfl) (ha : a < 2 ^ 31 := by omega) (hb : b < 2 ^ 31 := by omega) : (x = y → A) ∧ (¬ x = y → B) := by
  subst hx hy
  rw [nI_eq ha hb]
  exact ⟨f, g⟩
theorem pk_in {x : Int32} (n N : Nat) (h : n < N) (hx : x = nI n := by rfl) (hN : N < 2 ^ 31 := by omega) : vp_in x N := by
  subst hx
  exact vp_in_nI h hN
theorem pk_cl {x : Int32} (n : Nat) (hx : x = nI n := by rfl) (h : n < 2 ^ 31 := by omega) : x.toNatClampNeg = n := by
  subst hx
  exact nI_clamp h
theorem pk_loop {σ : Type} (W : Nat → Nat → σ → Prop) (I : Nat → σ → Prop) (e i0 : Nat) (s : σ) (hi : i0 ≤ e) (h0 : I i0 s) (hx : ∀ n s, I e s → W (n + 1) e s)
    (hs : ∀ n i s, i < e → I i s → (∀ s', I (i + 1) s' → W n (i + 1) s') → W (n + 1) i s) : ∃ n, W n i0 s :=
  ⟨e + 1, loop_i W I e hx hs (e + 1) i0 s hi (by omega) h0⟩
theorem sb_m1 {p : Nat} (h : 0 < p) : nI p + (-1) = nI (p - 1) := by
  obtain ⟨q, rfl⟩ : ∃ q, p = q + 1 := ⟨p - 1, by omega⟩
  exact pk_m1 q
end
section
/-! pure part: live nodes counted clockwise from a key, the first c of them, sums over keys -/
def cd_b (x : Int32) : Nat := if x = 0 then 0 else 1
theorem cd_b0 {x : Int32} (h : x = 0) : cd_b x = 0 := if_pos h
theorem cd_b1 {x : Int32} (h : ¬ x = 0) : cd_b x = 1 := if_neg h
theorem cd_bl (x : Int32) : cd_b x ≤ 1 := by
  by_cases h : x = 0
  · have := cd_b0 h
    omega
  · have := cd_b1 h
    omega
def cd_q (x : Nat) : Nat := if x = 0 then 0 else 1
theorem cd_q0 {x : Nat} (h : x = 0) : cd_q x = 0 := if_pos h
theorem cd_q1 {x : Nat} (h : ¬ x = 0) : cd_q x = 1 := if_neg h
theorem cd_ql (x : Nat) : cd_q x ≤ 1 := by
  by_cases h : x = 0
  · have := cd_q0 h
    omega
  · have := cd_q1 h
    omega
theorem cd_qz {x : Nat} : cd_q x = 0 ↔ x = 0 := by
  by_cases h : x = 0
  · exact ⟨fun _ => h, fun _ => cd_q0 h⟩
  · have := cd_q1 h
    exact ⟨fun z => by omega, fun z => absurd z h⟩
/-- the live among the first d steps clockwise from k -/
def cd_c (lv : Nat → Int32) (k : Nat) : Nat → Nat
  | 0 => 0
  | d + 1 => cd_c lv k d + cd_b (lv ((k + d) % 256))
theorem cd_cs (lv : Nat → Int32) (k d : Nat) : cd_c lv k (d + 1) = cd_c lv k d + cd_b (lv ((k + d) % 256)) := rfl
theorem cd_ct {lv : Nat → Int32} {k d : Nat} (h : ¬ lv ((k + d) % 256) = 0) : cd_c lv k (d + 1) = cd_c lv k d + 1 := by
  have e := cd_cs lv k d
  have f := cd_b1 h
  omega
theorem cd_cf {lv : Nat → Int32} {k d : Nat} (h : lv ((k + d) % 256) = 0) : cd_c lv k (d + 1) = cd_c lv k d := by
  have e := cd_cs lv k d
  have f := cd_b0 h
  omega
theorem cd_mono (lv : Nat → Int32) (k : Nat) : ∀ e d, d ≤ e → cd_c lv k d ≤ cd_c lv k e := by
  intro e
  induction e with
  | zero =>
    intro d h
    have q : d = 0 := by omega
    subst q
    exact Nat.le_refl _
  | succ e ih =>
    intro d h
    by_cases q : d = e + 1
    · subst q
      exact Nat.le_refl _
    · have a := ih d (by omega)
      have b := cd_cs lv k e
      omega
theorem cd_cle (lv : Nat → Int32) (k : Nat) : ∀ d, cd_c lv k d ≤ d := by
  intro d
  induction d with
  | zero => exact Nat.le_refl _
  | succ d ih =>
    have b := cd_cs lv k d
    have c := cd_bl (lv ((k + d) % 256))
    omega
theorem cd_lt {lv : Nat → Int32} {k d e : Nat} (h : ¬ lv ((k + d) % 256) = 0) (hd : d < e) : cd_c lv k d < cd_c lv k e := by
  have a := cd_mono lv k e (d + 1) hd
  have b := cd_ct h
  omega
theorem cd_uniq {lv : Nat → Int32} {k d e : Nat} (h : ¬ lv ((k + d) % 256) = 0) (g : ¬ lv ((k + e) % 256) = 0) (q : cd_c lv k d = cd_c lv k e) : d = e := by
  rcases Nat.lt_trichotomy d e with a | a | a
  · have := cd_lt h a
    omega
  · exact a
  · have := cd_lt g a
    omega
theorem cd_ex (lv : Nat → Int32) (k : Nat) : ∀ e p, p < cd_c lv k e → ∃ d, d < e ∧ ¬ lv ((k + d) % 256) = 0 ∧ cd_c lv k d = p := by
  intro e
  induction e with
  | zero =>
    intro p h
    exact absurd h (Nat.not_lt_zero _)
  | succ e ih =>
    intro p h
    by_cases q : p < cd_c lv k e
    · obtain ⟨d, a, b, c⟩ := ih p q
      exact ⟨d, by omega, b, c⟩
    · by_cases z : lv ((k + e) % 256) = 0
      · have := cd_cf z
        omega
      · have := cd_ct z
        exact ⟨e, by omega, z, by omega⟩
theorem cd_shift (lv : Nat → Int32) (k : Nat) : ∀ d, cd_c lv k (d + 1) = cd_c lv (k + 1) d + cd_b (lv (k % 256)) := by
  intro d
  induction d with
  | zero =>
    have a := cd_cs lv k 0
    have b : cd_c lv k 0 = 0 := rfl
    have c : cd_c lv (k + 1) 0 = 0 := rfl
    rw [show k + 0 = k from rfl] at a
    omega
  | succ d ih =>
    have a := cd_cs lv k (d + 1)
    have b := cd_cs lv (k + 1) d
    rw [show k + (d + 1) = k + 1 + d by omega] at a
    omega
theorem cd_rot1 (lv : Nat → Int32) (k : Nat) : cd_c lv (k + 1) 256 = cd_c lv k 256 := by
  have a := cd_shift lv k 255
  have b := cd_cs lv (k + 1) 255
  rw [show (k + 1 + 255) % 256 = k % 256 by omega] at b
  exact b.trans a.symm
theorem cd_rot (lv : Nat → Int32) : ∀ k, cd_c lv k 256 = cd_c lv 0 256 := by
  intro k
  induction k with
  | zero => rfl
  | succ k ih => exact (cd_rot1 lv k).trans ih
/-- the steps from k to n -/
def cd_d (k n : Nat) : Nat := (n + 256 - k) % 256
theorem cd_dl (k n : Nat) : cd_d k n < 256 := Nat.mod_lt _ (by decide)
theorem cd_dn {k n : Nat} (hk : k < 256) (hn : n < 256) : (k + cd_d k n) % 256 = n := by
  unfold cd_d
  omega
theorem cd_dd {k d : Nat} (hk : k < 256) (hd : d < 256) : cd_d k ((k + d) % 256) = d := by
  unfold cd_d
  omega
/-- is n among the first c live clockwise from k -/
def cd_h (lv : Nat → Int32) (c k n : Nat) : Int32 := if lv n = 0 then 0 else if cd_c lv k (cd_d k n) < c then 1 else 0
theorem cd_hd {lv : Nat → Int32} {c k n : Nat} (h : lv n = 0) : cd_h lv c k n = 0 := if_pos h
theorem cd_ht {lv : Nat → Int32} {c k n : Nat} (h : ¬ lv n = 0) (g : cd_c lv k (cd_d k n) < c) : cd_h lv c k n = 1 := by
  unfold cd_h
  rw [if_neg h, if_pos g]
theorem cd_hf {lv : Nat → Int32} {c k n : Nat} (g : ¬ cd_c lv k (cd_d k n) < c) : cd_h lv c k n = 0 := by
  unfold cd_h
  by_cases h : lv n = 0
  · rw [if_pos h]
  · rw [if_neg h, if_neg g]
theorem cd_one : ¬ (1 : Int32) = 0 := by decide
theorem cd_hi {lv : Nat → Int32} {c k n : Nat} (h : ¬ cd_h lv c k n = 0) : ¬ lv n = 0 ∧ cd_c lv k (cd_d k n) < c := by
  by_cases a : lv n = 0
  · exact absurd (cd_hd a) h
  · by_cases b : cd_c lv k (cd_d k n) < c
    · exact ⟨a, b⟩
    · exact absurd (cd_hf b) h
theorem cd_hj {lv : Nat → Int32} {c k n : Nat} (h : ¬ lv n = 0) (g : cd_c lv k (cd_d k n) < c) : ¬ cd_h lv c k n = 0 := by
  rw [cd_ht h g]
  exact cd_one
theorem cd_h01 (lv : Nat → Int32) (c k n : Nat) : cd_h lv c k n = 0 ∨ cd_h lv c k n = 1 := by
  by_cases a : cd_h lv c k n = 0
  · exact Or.inl a
  · exact Or.inr (cd_ht (cd_hi a).1 (cd_hi a).2)
theorem cd_hz (lv : Nat → Int32) (k n : Nat) : cd_h lv 0 k n = 0 := cd_hf (Nat.not_lt_zero _)
theorem cd_hst {lv : Nat → Int32} {c k d : Nat} (hk : k < 256) (hd : d < 256) (h : ¬ lv ((k + d) % 256) = 0) (g : cd_c lv k d < c) : cd_h lv c k ((k + d) % 256) = 1 :=
  cd_ht h (by rw [cd_dd hk hd]; exact g)
theorem cd_hsf {lv : Nat → Int32} {c k d : Nat} (hk : k < 256) (hd : d < 256) (g : ¬ cd_c lv k d < c) : cd_h lv c k ((k + d) % 256) = 0 :=
  cd_hf (by rw [cd_dd hk hd]; exact g)
theorem cd_llt {lv : Nat → Int32} {k n : Nat} (hk : k < 256) (hn : n < 256) (h : ¬ lv n = 0) : cd_c lv k (cd_d k n) < cd_c lv 0 256 := by
  have e := cd_dn hk hn
  have g : ¬ lv ((k + cd_d k n) % 256) = 0 := by
    rw [e]
    exact h
  have s := cd_lt g (cd_dl k n)
  rw [cd_rot lv k] at s
  exact s
theorem cd_hm {lv : Nat → Int32} {c k n : Nat} (hk : k < 256) (hn : n < 256) : cd_h lv (min c (cd_c lv 0 256)) k n = cd_h lv c k n := by
  by_cases h : lv n = 0
  · rw [cd_hd h, cd_hd h]
  · have s := cd_llt hk hn h
    by_cases q : cd_c lv k (cd_d k n) < c
    · have q2 : cd_c lv k (cd_d k n) < min c (cd_c lv 0 256) := by omega
      rw [cd_ht h q, cd_ht h q2]
    · have q2 : ¬ cd_c lv k (cd_d k n) < min c (cd_c lv 0 256) := by omega
      rw [cd_hf q, cd_hf q2]
/-! one live node goes -/
theorem cd_rm {lv : Nat → Int32} {k i : Nat} (hk : k < 256) (hi : i < 256) (h : ¬ lv i = 0) : ∀ d, d ≤ 256 →
    (cd_d k i < d → cd_c lv k d = cd_c (upd lv i 0) k d + 1) ∧ (¬ cd_d k i < d → cd_c lv k d = cd_c (upd lv i 0) k d) := by
  intro d
  induction d with
  | zero =>
    intro _
    exact ⟨fun z => absurd z (Nat.not_lt_zero _), fun _ => rfl⟩
  | succ d ih =>
    intro hd
    obtain ⟨a1, a2⟩ := ih (by omega)
    have b := cd_cs lv k d
    have c := cd_cs (upd lv i 0) k d
    by_cases q : (k + d) % 256 = i
    · have e : cd_d k i = d := by
        rw [← q]
        exact cd_dd hk (by omega)
      have f : upd lv i 0 ((k + d) % 256) = 0 := by
        rw [q]
        exact pk_us
      have g : ¬ lv ((k + d) % 256) = 0 := by
        rw [q]
        exact h
      have f' := cd_b0 f
      have g' := cd_b1 g
      have a := a2 (by omega)
      exact ⟨fun _ => by omega, fun z => absurd (by omega) z⟩
    · have e : cd_d k i ≠ d := by
        intro z
        apply q
        rw [← z]
        exact cd_dn hk hi
      have f : upd lv i 0 ((k + d) % 256) = lv ((k + d) % 256) := pk_un q
      rw [f] at c
      by_cases z : cd_d k i < d
      · have a := a1 z
        exact ⟨fun _ => by omega, fun z => absurd (by omega) z⟩
      · have a := a2 z
        exact ⟨fun _ => by omega, fun _ => by omega⟩
theorem cd_rmN {lv : Nat → Int32} {i : Nat} (hi : i < 256) (h : ¬ lv i = 0) : cd_c lv 0 256 = cd_c (upd lv i 0) 0 256 + 1 :=
  (cd_rm (by decide) hi h 256 (Nat.le_refl _)).1 (cd_dl 0 i)
theorem cd_addN {lv : Nat → Int32} {i : Nat} (hi : i < 256) (h : lv i = 0) : cd_c (upd lv i 1) 0 256 = cd_c lv 0 256 + 1 := by
  have a := cd_rmN (lv := upd lv i 1) hi (by rw [pk_us]; exact cd_one)
  have e : upd (upd lv i 1) i 0 = lv := by
    funext j
    by_cases q : j = i
    · rw [q, pk_us, h]
    · rw [pk_un q, pk_un q]
  rw [e] at a
  exact a
theorem cd_crash {lv : Nat → Int32} {c k i n : Nat} (hk : k < 256) (hi : i < 256) (hn : n < 256) (h : ¬ lv i = 0) :
    (n = i → cd_h (upd lv i 0) (c - cd_b (cd_h lv c k i)) k n = 0) ∧ (n ≠ i → cd_h (upd lv i 0) (c - cd_b (cd_h lv c k i)) k n = cd_h lv c k n) := by
  constructor
  · intro q
    rw [q]
    exact cd_hd pk_us
  · intro q
    have en : upd lv i 0 n = lv n := pk_un q
    by_cases z : lv n = 0
    · rw [cd_hd z, cd_hd (en.trans z)]
    · have z' : ¬ upd lv i 0 n = 0 := by
        rw [en]
        exact z
      have dn := cd_dn hk hn
      have di := cd_dn hk hi
      have ne : cd_d k n ≠ cd_d k i := by
        intro w
        rw [w] at dn
        exact q (dn.symm.trans di)
      have ln : ¬ lv ((k + cd_d k n) % 256) = 0 := by
        rw [dn]
        exact z
      have li : ¬ lv ((k + cd_d k i) % 256) = 0 := by
        rw [di]
        exact h
      obtain ⟨r1, r2⟩ := cd_rm hk hi h (cd_d k n) (Nat.le_of_lt (cd_dl k n))
      by_cases o : cd_d k i < cd_d k n
      · have a1 := r1 o
        have a2 := cd_lt li o
        by_cases w : cd_c lv k (cd_d k i) < c
        · have b1 := cd_b1 (cd_hj h w)
          by_cases y : cd_c lv k (cd_d k n) < c
          · have y2 : cd_c (upd lv i 0) k (cd_d k n) < c - cd_b (cd_h lv c k i) := by omega
            rw [cd_ht z y, cd_ht z' y2]
          · have y2 : ¬ cd_c (upd lv i 0) k (cd_d k n) < c - cd_b (cd_h lv c k i) := by omega
            rw [cd_hf y, cd_hf y2]
        · have y : ¬ cd_c lv k (cd_d k n) < c := by omega
          have y2 : ¬ cd_c (upd lv i 0) k (cd_d k n) < c - cd_b (cd_h lv c k i) := by omega
          rw [cd_hf y, cd_hf y2]
      · have a1 := r2 o
        have a2 := cd_lt ln (by omega : cd_d k n < cd_d k i)
        by_cases w : cd_c lv k (cd_d k i) < c
        · have b1 := cd_b1 (cd_hj h w)
          have y : cd_c lv k (cd_d k n) < c := by omega
          have y2 : cd_c (upd lv i 0) k (cd_d k n) < c - cd_b (cd_h lv c k i) := by omega
          rw [cd_ht z y, cd_ht z' y2]
        · have b1 := cd_b0 (cd_hf w)
          by_cases y : cd_c lv k (cd_d k n) < c
          · have y2 : cd_c (upd lv i 0) k (cd_d k n) < c - cd_b (cd_h lv c k i) := by omega
            rw [cd_ht z y, cd_ht z' y2]
          · have y2 : ¬ cd_c (upd lv i 0) k (cd_d k n) < c - cd_b (cd_h lv c k i) := by omega
            rw [cd_hf y, cd_hf y2]
theorem cd_crashC {lv : Nat → Int32} {c k i m : Nat} (hk : k < 256) (hi : i < 256) (h : ¬ lv i = 0) (hc : c ≤ min m (cd_c lv 0 256)) :
    c - cd_b (cd_h lv c k i) ≤ min m (cd_c (upd lv i 0) 0 256) := by
  have a := cd_rmN hi h
  have b := cd_llt hk hi h
  by_cases w : cd_c lv k (cd_d k i) < c
  · have b1 := cd_b1 (cd_hj h w)
    omega
  · have b1 := cd_b0 (cd_hf w)
    omega
theorem cd_other {lv : Nat → Int32} {c k i : Nat} (hk : k < 256) (hi : i < 256) (hc : c ≤ cd_c lv 0 256) (hH : ¬ cd_h lv c k i = 0) :
    (c = 1 → ∀ n, n < 256 → n ≠ i → cd_h lv c k n = 0) ∧ (c ≠ 1 → ∃ n, n < 256 ∧ n ≠ i ∧ ¬ cd_h lv c k n = 0) := by
  obtain ⟨h, w⟩ := cd_hi hH
  have di := cd_dn hk hi
  constructor
  · intro c1 n hn q
    by_cases y : cd_h lv c k n = 0
    · exact y
    · obtain ⟨z, x⟩ := cd_hi y
      have dn := cd_dn hk hn
      have e : cd_d k n = cd_d k i := by
        refine cd_uniq (lv := lv) (k := k) ?_ ?_ (by omega)
        · rw [dn]
          exact z
        · rw [di]
          exact h
      rw [e] at dn
      exact absurd (dn.symm.trans di) q
  · intro c1
    have rt := cd_rot lv k
    have hp : ∃ p, p < c ∧ p ≠ cd_c lv k (cd_d k i) := by
      by_cases y : cd_c lv k (cd_d k i) = 0
      · exact ⟨1, by omega, by omega⟩
      · exact ⟨0, by omega, by omega⟩
    obtain ⟨p, hp, np⟩ := hp
    obtain ⟨d, hd, ld, ed⟩ := cd_ex lv k 256 p (by omega)
    refine ⟨(k + d) % 256, Nat.mod_lt _ (by decide), ?_, ?_⟩
    · intro e
      apply np
      rw [← e, cd_dd hk hd, ed]
    · rw [cd_hst hk hd ld (by omega)]
      exact cd_one
/-! sums -/
def cd_s (f : Nat → Nat) : Nat → Nat
  | 0 => 0
  | i + 1 => cd_s f i + f i
theorem cd_ss (f : Nat → Nat) (i : Nat) : cd_s f (i + 1) = cd_s f i + f i := rfl
theorem cd_sc {f g : Nat → Nat} : ∀ e, (∀ j, j < e → f j = g j) → cd_s f e = cd_s g e := by
  intro e
  induction e with
  | zero =>
    intro _
    rfl
  | succ e ih =>
    intro h
    have a := ih (fun j hj => h j (by omega))
    have b := h e (by omega)
    rw [cd_ss, cd_ss, a, b]
theorem cd_sl {f : Nat → Nat} {m : Nat} : ∀ e, (∀ j, j < e → f j ≤ m) → cd_s f e ≤ e * m := by
  intro e
  induction e with
  | zero =>
    intro _
    rw [Nat.zero_mul]
    exact Nat.le_refl _
  | succ e ih =>
    intro h
    have a := ih (fun j hj => h j (by omega))
    have b := h e (by omega)
    rw [cd_ss, Nat.succ_mul]
    omega
theorem cd_sa {f g h : Nat → Nat} : ∀ e, (∀ j, j < e → f j = g j + h j) → cd_s f e = cd_s g e + cd_s h e := by
  intro e
  induction e with
  | zero =>
    intro _
    rfl
  | succ e ih =>
    intro w
    have a := ih (fun j hj => w j (by omega))
    have b := w e (by omega)
    rw [cd_ss, cd_ss, cd_ss]
    omega
theorem cd_s0 {f : Nat → Nat} : ∀ e, (∀ j, j < e → f j = 0) → cd_s f e = 0 := by
  intro e
  induction e with
  | zero =>
    intro _
    rfl
  | succ e ih =>
    intro w
    have a := ih (fun j hj => w j (by omega))
    have b := w e (by omega)
    rw [cd_ss]
    omega
theorem cd_smono {f : Nat → Nat} : ∀ e d, d ≤ e → cd_s f d ≤ cd_s f e := by
  intro e
  induction e with
  | zero =>
    intro d h
    have q : d = 0 := by omega
    subst q
    exact Nat.le_refl _
  | succ e ih =>
    intro d h
    by_cases q : d = e + 1
    · subst q
      exact Nat.le_refl _
    · have a := ih d (by omega)
      have b := cd_ss f e
      omega
/-- the stored keys below i -/
def cd_n (C : Nat → Nat) (i : Nat) : Nat := cd_s (fun j => cd_q (C j)) i
theorem cd_nl (C : Nat → Nat) (i : Nat) : cd_n C i ≤ i := by
  have a := cd_sl (f := fun j => cd_q (C j)) (m := 1) i (fun j _ => cd_ql _)
  rw [Nat.mul_one] at a
  exact a
/-- what setTop creates in the first d steps -/
def cd_e (lv w : Nat → Int32) (c k d : Nat) : Nat := if lv ((k + d) % 256) = 0 then 0 else if cd_c lv k d < c then (if w ((k + d) % 256) = 0 then 1 else 0) else 0
def cd_r (lv w : Nat → Int32) (c k : Nat) : Nat → Nat := cd_s (cd_e lv w c k)
theorem cd_e0 {lv w : Nat → Int32} {c k d : Nat} (h : lv ((k + d) % 256) = 0) : cd_e lv w c k d = 0 := if_pos h
theorem cd_e1 {lv w : Nat → Int32} {c k d : Nat} (h : ¬ cd_c lv k d < c) : cd_e lv w c k d = 0 := by
  unfold cd_e
  by_cases g : lv ((k + d) % 256) = 0
  · rw [if_pos g]
  · rw [if_neg g, if_neg h]
theorem cd_e2 {lv w : Nat → Int32} {c k d : Nat} (h : ¬ w ((k + d) % 256) = 0) : cd_e lv w c k d = 0 := by
  unfold cd_e
  by_cases g : lv ((k + d) % 256) = 0
  · rw [if_pos g]
  · rw [if_neg g]
    by_cases y : cd_c lv k d < c
    · rw [if_pos y, if_neg h]
    · rw [if_neg y]
theorem cd_e3 {lv w : Nat → Int32} {c k d : Nat} (h : ¬ lv ((k + d) % 256) = 0) (g : cd_c lv k d < c) (y : w ((k + d) % 256) = 0) : cd_e lv w c k d = 1 := by
  unfold cd_e
  rw [if_neg h, if_pos g, if_pos y]
theorem cd_el (lv w : Nat → Int32) (c k d : Nat) : cd_e lv w c k d ≤ 1 := by
  by_cases h : lv ((k + d) % 256) = 0
  · rw [cd_e0 h]
    omega
  · by_cases g : cd_c lv k d < c
    · by_cases y : w ((k + d) % 256) = 0
      · rw [cd_e3 h g y]
        exact Nat.le_refl _
      · rw [cd_e2 y]
        omega
    · rw [cd_e1 g]
      omega
theorem cd_rl (lv w : Nat → Int32) (c k i : Nat) : cd_r lv w c k i ≤ i := by
  have a := cd_sl (f := cd_e lv w c k) (m := 1) i (fun j _ => cd_el _ _ _ _ _)
  rw [Nat.mul_one] at a
  exact a
theorem cd_rc {lv w w' : Nat → Int32} {c k : Nat} (h : ∀ n, n < 256 → w n = w' n) (d : Nat) : cd_r lv w c k d = cd_r lv w' c k d := by
  apply cd_sc
  intro j _
  unfold cd_e
  rw [h _ (Nat.mod_lt _ (by decide))]
theorem cd_rv {lv w : Nat → Int32} {c m k : Nat} (hk : k < 256) (hm : m ≤ c) (h : ∀ n, n < 256 → w n = cd_h lv m k n) :
    ∀ d, d ≤ 256 → cd_r lv w c k d + min (cd_c lv k d) m = min (cd_c lv k d) c := by
  intro d
  induction d with
  | zero =>
    intro _
    show 0 + min 0 m = min 0 c
    omega
  | succ d ih =>
    intro hd
    have a := ih (by omega)
    have b : cd_r lv w c k (d + 1) = cd_r lv w c k d + cd_e lv w c k d := rfl
    have e := h ((k + d) % 256) (Nat.mod_lt _ (by decide))
    by_cases z : lv ((k + d) % 256) = 0
    · have q1 := cd_cf z
      have q2 := cd_e0 (w := w) (c := c) z
      omega
    · have q1 := cd_ct z
      by_cases y : cd_c lv k d < m
      · rw [cd_hst hk (by omega) z y] at e
        have q2 := cd_e2 (lv := lv) (c := c) (by rw [e]; exact cd_one : ¬ w ((k + d) % 256) = 0)
        omega
      · rw [cd_hsf hk (by omega) y] at e
        by_cases x : cd_c lv k d < c
        · have q2 := cd_e3 z x e
          omega
        · have q2 := cd_e1 (w := w) x
          omega
theorem cd_rw {lv w : Nat → Int32} {c m k : Nat} (hk : k < 256) (hm : m ≤ min c (cd_c lv 0 256)) (h : ∀ n, n < 256 → w n = cd_h lv m k n) :
    cd_r lv w c k 256 = min c (cd_c lv 0 256) - m := by
  have q1 : m ≤ c := Nat.le_trans hm (Nat.min_le_left _ _)
  have q2 : m ≤ cd_c lv 0 256 := Nat.le_trans hm (Nat.min_le_right _ _)
  have a := cd_rv hk q1 h 256 (Nat.le_refl _)
  rw [cd_rot lv k, Nat.min_eq_right q2, Nat.min_comm] at a
  exact (Nat.sub_eq_of_eq_add a.symm).symm
end
section
/-! arrays as functions: what the loops leave behind -/
/-- block k of hold after d steps of setTop -/
def cd_sp (lv : Nat → Int32) (c k : Nat) (ho : Nat → Int32) (d j : Nat) : Int32 :=
  if j / 256 = k ∧ cd_d k (j % 256) < d then cd_h lv c k (j % 256) else ho j
def cd_st (lv : Nat → Int32) (c k : Nat) (ho : Nat → Int32) (j : Nat) : Int32 :=
  if j / 256 = k then cd_h lv c k (j % 256) else ho j
theorem cd_blk {k n : Nat} (hn : n < 256) : (k * 256 + n) / 256 = k ∧ (k * 256 + n) % 256 = n := by omega
theorem cd_sp0 (lv : Nat → Int32) (c k : Nat) (ho : Nat → Int32) : cd_sp lv c k ho 0 = ho := by
  funext j
  exact if_neg (fun h => absurd h.2 (Nat.not_lt_zero _))
theorem cd_spe (lv : Nat → Int32) (c k : Nat) (ho : Nat → Int32) : cd_sp lv c k ho 256 = cd_st lv c k ho := by
  funext j
  unfold cd_sp cd_st
  by_cases q : j / 256 = k
  · rw [if_pos ⟨q, cd_dl _ _⟩, if_pos q]
  · have q2 : ¬ (j / 256 = k ∧ cd_d k (j % 256) < 256) := fun h => q h.1
    rw [if_neg q2, if_neg q]
theorem cd_spr (lv : Nat → Int32) {c k : Nat} (ho : Nat → Int32) {d : Nat} (hk : k < 256) (hd : d < 256) :
    cd_sp lv c k ho d (k * 256 + (k + d) % 256) = ho (k * 256 + (k + d) % 256) := by
  have hb := cd_blk (k := k) (n := (k + d) % 256) (Nat.mod_lt _ (by decide))
  refine if_neg (fun h => ?_)
  have h2 := h.2
  rw [hb.2, cd_dd hk hd] at h2
  exact absurd h2 (Nat.lt_irrefl _)
theorem cd_sps (lv : Nat → Int32) {c k : Nat} (ho : Nat → Int32) {d : Nat} (hk : k < 256) (hd : d < 256) :
    upd (cd_sp lv c k ho d) (k * 256 + (k + d) % 256) (cd_h lv c k ((k + d) % 256)) = cd_sp lv c k ho (d + 1) := by
  have hb := cd_blk (k := k) (n := (k + d) % 256) (Nat.mod_lt _ (by decide))
  funext j
  by_cases q : j = k * 256 + (k + d) % 256
  · rw [q, pk_us]
    unfold cd_sp
    rw [hb.1, hb.2, cd_dd hk hd, if_pos ⟨rfl, Nat.lt_succ_self d⟩]
  · rw [pk_un q]
    unfold cd_sp
    by_cases y : j / 256 = k ∧ cd_d k (j % 256) < d
    · rw [if_pos y, if_pos ⟨y.1, by have := y.2; omega⟩]
    · rw [if_neg y]
      refine (if_neg (fun h => ?_)).symm
      apply y
      refine ⟨h.1, ?_⟩
      have h2 := h.2
      have ne : cd_d k (j % 256) ≠ d := by
        intro e
        apply q
        have dn := cd_dn hk (Nat.mod_lt j (by decide) : j % 256 < 256)
        rw [e] at dn
        have h1 := h.1
        omega
      omega
theorem cd_stb {lv : Nat → Int32} {c k : Nat} {ho : Nat → Int32} {n : Nat} (hn : n < 256) : cd_st lv c k ho (k * 256 + n) = cd_h lv c k n := by
  have hb := cd_blk (k := k) hn
  unfold cd_st
  rw [hb.1, hb.2, if_pos rfl]
theorem cd_sto {lv : Nat → Int32} {c k : Nat} {ho : Nat → Int32} {m n : Nat} (hn : n < 256) (h : m ≠ k) : cd_st lv c k ho (m * 256 + n) = ho (m * 256 + n) := by
  have hb := cd_blk (k := m) hn
  unfold cd_st
  rw [hb.1, if_neg h]
/-- block k of hold after n steps of dropKey -/
def cd_dp (k : Nat) (ho : Nat → Int32) (n j : Nat) : Int32 := if j / 256 = k ∧ j % 256 < n then 0 else ho j
def cd_dk (k : Nat) (ho : Nat → Int32) (j : Nat) : Int32 := if j / 256 = k then 0 else ho j
theorem cd_dp0 (k : Nat) (ho : Nat → Int32) : cd_dp k ho 0 = ho := by
  funext j
  exact if_neg (fun h => absurd h.2 (Nat.not_lt_zero _))
theorem cd_dpe (k : Nat) (ho : Nat → Int32) : cd_dp k ho 256 = cd_dk k ho := by
  funext j
  unfold cd_dp cd_dk
  by_cases q : j / 256 = k
  · rw [if_pos ⟨q, Nat.mod_lt _ (by decide)⟩, if_pos q]
  · have q2 : ¬ (j / 256 = k ∧ j % 256 < 256) := fun h => q h.1
    rw [if_neg q2, if_neg q]
theorem cd_dps (k : Nat) (ho : Nat → Int32) {n : Nat} (hn : n < 256) : upd (cd_dp k ho n) (k * 256 + n) 0 = cd_dp k ho (n + 1) := by
  have hb := cd_blk (k := k) hn
  funext j
  by_cases q : j = k * 256 + n
  · rw [q, pk_us]
    unfold cd_dp
    rw [hb.1, hb.2, if_pos ⟨rfl, Nat.lt_succ_self n⟩]
  · rw [pk_un q]
    unfold cd_dp
    by_cases y : j / 256 = k ∧ j % 256 < n
    · rw [if_pos y, if_pos ⟨y.1, by have := y.2; omega⟩]
    · rw [if_neg y]
      refine (if_neg (fun h => ?_)).symm
      apply y
      have h1 := h.1
      have h2 := h.2
      omega
theorem cd_dko {k : Nat} {ho : Nat → Int32} {m n : Nat} (hn : n < 256) (h : m ≠ k) : cd_dk k ho (m * 256 + n) = ho (m * 256 + n) := by
  have hb := cd_blk (k := m) hn
  unfold cd_dk
  rw [hb.1, if_neg h]
/-- hold after i keys of repair, some node live -/
def cd_rp (lv : Nat → Int32) (c : Nat) (C : Nat → Nat) (ho : Nat → Int32) (i j : Nat) : Int32 :=
  if j / 256 < i ∧ ¬ C (j / 256) = 0 then cd_h lv c (j / 256) (j % 256) else ho j
theorem cd_rp0 (lv : Nat → Int32) (c : Nat) (C : Nat → Nat) (ho : Nat → Int32) : cd_rp lv c C ho 0 = ho := by
  funext j
  exact if_neg (fun h => absurd h.1 (Nat.not_lt_zero _))
theorem cd_rpf (lv : Nat → Int32) {c : Nat} {C : Nat → Nat} (ho : Nat → Int32) {i : Nat} (h : C i = 0) : cd_rp lv c C ho i = cd_rp lv c C ho (i + 1) := by
  funext j
  unfold cd_rp
  by_cases y : j / 256 < i ∧ ¬ C (j / 256) = 0
  · rw [if_pos y, if_pos ⟨by have := y.1; omega, y.2⟩]
  · rw [if_neg y]
    refine (if_neg (fun g => ?_)).symm
    apply y
    refine ⟨?_, g.2⟩
    have g1 := g.1
    have ne : j / 256 ≠ i := by
      intro e
      apply g.2
      rw [e]
      exact h
    omega
theorem cd_rpt (lv : Nat → Int32) {c : Nat} {C : Nat → Nat} (ho : Nat → Int32) {i : Nat} (h : ¬ C i = 0) : cd_st lv c i (cd_rp lv c C ho i) = cd_rp lv c C ho (i + 1) := by
  funext j
  unfold cd_st
  by_cases q : j / 256 = i
  · rw [if_pos q]
    unfold cd_rp
    rw [q, if_pos ⟨Nat.lt_succ_self i, h⟩]
  · rw [if_neg q]
    unfold cd_rp
    by_cases y : j / 256 < i ∧ ¬ C (j / 256) = 0
    · rw [if_pos y, if_pos ⟨by have := y.1; omega, y.2⟩]
    · rw [if_neg y]
      refine (if_neg (fun g => ?_)).symm
      apply y
      refine ⟨?_, g.2⟩
      have g1 := g.1
      omega
theorem cd_rpr (lv : Nat → Int32) {c : Nat} {C : Nat → Nat} (ho : Nat → Int32) {i n : Nat} (hn : n < 256) : cd_rp lv c C ho i (i * 256 + n) = ho (i * 256 + n) := by
  have hb := cd_blk (k := i) hn
  refine if_neg (fun h => ?_)
  have h1 := h.1
  omega
theorem cd_rpb (lv : Nat → Int32) {c : Nat} {C : Nat → Nat} (ho : Nat → Int32) {k n : Nat} (hk : k < 256) (hn : n < 256) (h : ¬ C k = 0) : cd_rp lv c C ho 256 (k * 256 + n) = cd_h lv c k n := by
  have hb := cd_blk (k := k) hn
  unfold cd_rp
  rw [hb.1, hb.2, if_pos ⟨hk, h⟩]
/-! the numbers of copies -/
def cd_u (C : Nat → Nat) (k x j : Nat) : Nat := if j = k then x else C j
theorem cd_us {C : Nat → Nat} {k x : Nat} : cd_u C k x k = x := if_pos rfl
theorem cd_un {C : Nat → Nat} {k x j : Nat} (h : j ≠ k) : cd_u C k x j = C j := if_neg h
theorem cd_uI (C : Nat → Nat) (k x : Nat) : upd (fun j => nI (C j)) k (nI x) = fun j => nI (cd_u C k x j) := by
  funext j
  by_cases q : j = k
  · rw [q, pk_us, cd_us]
  · rw [pk_un q, cd_un q]
theorem cd_uQ (C : Nat → Nat) (k x : Nat) : upd (fun j => nI (cd_q (C j))) k (nI (cd_q x)) = fun j => nI (cd_q (cd_u C k x j)) := by
  funext j
  by_cases q : j = k
  · rw [q, pk_us, cd_us]
  · rw [pk_un q, cd_un q]
/-- copies after i keys of X's repair to m -/
def cd_x (C : Nat → Nat) (m i j : Nat) : Nat := if j < i ∧ ¬ C j = 0 then m else C j
theorem cd_x0 (C : Nat → Nat) (m : Nat) : cd_x C m 0 = C := by
  funext j
  exact if_neg (fun h => absurd h.1 (Nat.not_lt_zero _))
theorem cd_xr (C : Nat → Nat) (m i : Nat) : cd_x C m i i = C i := if_neg (fun h => absurd h.1 (Nat.lt_irrefl _))
theorem cd_xf {C : Nat → Nat} {m i : Nat} (h : C i = 0) : cd_x C m i = cd_x C m (i + 1) := by
  funext j
  unfold cd_x
  by_cases y : j < i ∧ ¬ C j = 0
  · rw [if_pos y, if_pos ⟨by have := y.1; omega, y.2⟩]
  · rw [if_neg y]
    refine (if_neg (fun g => ?_)).symm
    apply y
    refine ⟨?_, g.2⟩
    have g1 := g.1
    have ne : j ≠ i := by
      intro e
      apply g.2
      rw [e]
      exact h
    omega
theorem cd_xt {C : Nat → Nat} {m i : Nat} (h : ¬ C i = 0) : cd_u (cd_x C m i) i m = cd_x C m (i + 1) := by
  funext j
  by_cases q : j = i
  · rw [q, cd_us]
    exact (if_pos ⟨Nat.lt_succ_self i, h⟩).symm
  · rw [cd_un q]
    unfold cd_x
    by_cases y : j < i ∧ ¬ C j = 0
    · rw [if_pos y, if_pos ⟨by have := y.1; omega, y.2⟩]
    · rw [if_neg y]
      refine (if_neg (fun g => ?_)).symm
      apply y
      refine ⟨?_, g.2⟩
      have g1 := g.1
      omega
theorem cd_xin {C : Nat → Nat} {m j : Nat} (hj : j < 256) (h : ¬ C j = 0) : cd_x C m 256 j = m := if_pos ⟨hj, h⟩
theorem cd_xz {C : Nat → Nat} {m i j : Nat} (h : C j = 0) : cd_x C m i j = 0 := (if_neg (fun g => g.2 h)).trans h
theorem cd_xq (C : Nat → Nat) {m : Nat} (i : Nat) (hm : ¬ m = 0) (j : Nat) : cd_q (cd_x C m i j) = cd_q (C j) := by
  unfold cd_x
  by_cases y : j < i ∧ ¬ C j = 0
  · rw [if_pos y, cd_q1 hm, cd_q1 y.2]
  · rw [if_neg y]
/-- copies after i keys of the crash of node n -/
def cd_y (lv : Nat → Int32) (C : Nat → Nat) (n i j : Nat) : Nat := if j < i then C j - cd_b (cd_h lv (C j) j n) else C j
theorem cd_y0 (lv : Nat → Int32) (C : Nat → Nat) (n : Nat) : cd_y lv C n 0 = C := by
  funext j
  exact if_neg (Nat.not_lt_zero _)
theorem cd_yr (lv : Nat → Int32) (C : Nat → Nat) (n i : Nat) : cd_y lv C n i i = C i := if_neg (Nat.lt_irrefl _)
theorem cd_yin (lv : Nat → Int32) (C : Nat → Nat) (n : Nat) {i j : Nat} (h : j < i) : cd_y lv C n i j = C j - cd_b (cd_h lv (C j) j n) := if_pos h
theorem cd_yge (lv : Nat → Int32) (C : Nat → Nat) (n : Nat) {i j : Nat} (h : i ≤ j) : cd_y lv C n i j = C j := if_neg (by omega)
theorem cd_ys (lv : Nat → Int32) (C : Nat → Nat) (n i : Nat) : cd_u (cd_y lv C n i) i (C i - cd_b (cd_h lv (C i) i n)) = cd_y lv C n (i + 1) := by
  funext j
  by_cases q : j = i
  · rw [q, cd_us, cd_yin lv C n (Nat.lt_succ_self i)]
  · rw [cd_un q]
    by_cases y : j < i
    · rw [cd_yin lv C n y, cd_yin lv C n (by omega : j < i + 1)]
    · rw [cd_yge lv C n (by omega : i ≤ j), cd_yge lv C n (by omega : i + 1 ≤ j)]
theorem cd_yf {lv : Nat → Int32} {C : Nat → Nat} {n i : Nat} (h : cd_h lv (C i) i n = 0) : cd_y lv C n i = cd_y lv C n (i + 1) := by
  have e := cd_ys lv C n i
  rw [cd_b0 h] at e
  rw [← e]
  funext j
  by_cases q : j = i
  · rw [q, cd_us, cd_yr]
    rfl
  · rw [cd_un q]
/-- keys lost below i by the crash of node n -/
def cd_w (lv : Nat → Int32) (C : Nat → Nat) (n j : Nat) : Nat := cd_q (C j) - cd_q (C j - cd_b (cd_h lv (C j) j n))
def cd_l (lv : Nat → Int32) (C : Nat → Nat) (n i : Nat) : Nat := cd_s (cd_w lv C n) i
theorem cd_w0 {lv : Nat → Int32} {C : Nat → Nat} {n j : Nat} (h : cd_h lv (C j) j n = 0) : cd_w lv C n j = 0 := by
  unfold cd_w
  rw [cd_b0 h, Nat.sub_zero, Nat.sub_self]
theorem cd_wl (lv : Nat → Int32) (C : Nat → Nat) (n j : Nat) : cd_w lv C n j ≤ 1 := by
  unfold cd_w
  have := cd_ql (C j)
  omega
theorem cd_w1 {lv : Nat → Int32} {C : Nat → Nat} {n j : Nat} (h : ¬ cd_h lv (C j) j n = 0) (g : C j = 1) : cd_w lv C n j = 1 := by
  unfold cd_w
  rw [cd_b1 h, g]
  rfl
theorem cd_w2 {lv : Nat → Int32} {C : Nat → Nat} {n j : Nat} (h : ¬ cd_h lv (C j) j n = 0) (g : C j ≠ 1) : cd_w lv C n j = 0 := by
  have p := (cd_hi h).2
  unfold cd_w
  rw [cd_b1 h, cd_q1 (by omega : ¬ C j - 1 = 0)]
  have := cd_ql (C j)
  omega
theorem cd_ll (lv : Nat → Int32) (C : Nat → Nat) (n i : Nat) : cd_l lv C n i ≤ i := by
  have a := cd_sl (f := cd_w lv C n) (m := 1) i (fun j _ => cd_wl _ _ _ _)
  rw [Nat.mul_one] at a
  exact a
theorem cd_ln (lv : Nat → Int32) (C : Nat → Nat) (n : Nat) : cd_n C 256 = cd_n (cd_y lv C n 256) 256 + cd_l lv C n 256 := by
  apply cd_sa
  intro j hj
  show cd_q (C j) = cd_q (cd_y lv C n 256 j) + cd_w lv C n j
  rw [cd_yin lv C n hj]
  unfold cd_w
  by_cases z : C j - cd_b (cd_h lv (C j) j n) = 0
  · rw [cd_q0 z]
    omega
  · have z2 : ¬ C j = 0 := by omega
    rw [cd_q1 z, cd_q1 z2]
/-! a put and a removal in the number of stored keys -/
theorem cd_nu {C : Nat → Nat} {k x : Nat} (hk : k < 256) : cd_n (cd_u C k x) 256 + cd_q (C k) = cd_n C 256 + cd_q x := by
  have key : ∀ e, (e ≤ k → cd_n (cd_u C k x) e = cd_n C e) ∧ (k < e → cd_n (cd_u C k x) e + cd_q (C k) = cd_n C e + cd_q x) := by
    intro e
    induction e with
    | zero => exact ⟨fun _ => rfl, fun h => absurd h (Nat.not_lt_zero _)⟩
    | succ e ih =>
      have a : cd_n (cd_u C k x) (e + 1) = cd_n (cd_u C k x) e + cd_q (cd_u C k x e) := rfl
      have b : cd_n C (e + 1) = cd_n C e + cd_q (C e) := rfl
      by_cases q : e = k
      · subst q
        rw [cd_us] at a
        have i := ih.1 (Nat.le_refl _)
        exact ⟨fun h => by omega, fun _ => by omega⟩
      · rw [cd_un q] at a
        refine ⟨fun h => ?_, fun h => ?_⟩
        · have i := ih.1 (by omega)
          omega
        · have i := ih.2 (by omega)
          omega
  exact (key 256).2 hk
/-! numbers of the machine -/
theorem cd_256 : (256 : Int32) = nI 256 := by decide +kernel
theorem cd_ix (k n : Nat) : nI k * 256 + nI n = nI (k * 256 + n) := by
  rw [cd_256, pk_mul, nI_add]
theorem cd_md {k d : Nat} (hk : k < 256) (hd : d < 256) : nI k + nI d - (nI k + nI d) / 256 * 256 = nI ((k + d) % 256) := by
  rw [cd_256, nI_add]
  exact pk_rem (by omega) (by decide) (by decide)
theorem cd_sb {k n : Nat} (hk : k < 256) : nI n - nI k + 256 = nI (n + 256 - k) := by
  have e : nI (n + 256 - k) + nI k = nI n + nI 256 := by
    rw [nI_add, nI_add]
    exact congrArg nI (by omega)
  rw [cd_256]
  grind
theorem cd_ds {k n : Nat} (hk : k < 256) (hn : n < 256) : nI n - nI k + 256 - (nI n - nI k + 256) / 256 * 256 = nI (cd_d k n) := by
  rw [cd_sb hk, cd_256]
  exact pk_rem (by omega) (by decide) (by decide)
theorem cd_v0 : vp_nar .boolean 0 = 0 := by decide
theorem cd_v1 : vp_nar .boolean 1 = 1 := by decide
theorem cd_nb {z : Int32} (h : z = 0 ∨ z = 1) : narrow .boolean (.int z) = .int z := by
  rcases h with rfl | rfl <;> rfl
theorem cd_fb {z : Int32} (h : z = 0 ∨ z = 1) : fits .boolean (.int z) = true := by
  rcases h with rfl | rfl <;> rfl
theorem cd_vb {z : Int32} (h : z = 0 ∨ z = 1) : vp_nar .boolean z = z := by
  rcases h with rfl | rfl
  · exact cd_v0
  · exact cd_v1
/-! loops whose state the counter tells -/
theorem cd_lp (W : Nat → Nat → Prop) (I : Nat → Prop) (e : Nat) (h0 : I 0) (hx : ∀ n, I e → W (n + 1) e)
    (hs : ∀ n i, i < e → I i → (I (i + 1) → W n (i + 1)) → W (n + 1) i) : ∃ n, W n 0 :=
  loop_0 (fun n i (_ : Unit) => W n i) (fun i _ => I i) e () h0 (fun n _ h => hx n h) (fun n i _ hi h k => hs n i hi h (fun g => k () g))
theorem cd_lq (W : Nat → Nat → Prop) (e : Nat) (hx : ∀ n, W (n + 1) e) (hs : ∀ n i, i < e → W n (i + 1) → W (n + 1) i) : ∃ n, W n 0 :=
  cd_lp W (fun _ => True) e trivial (fun n _ => hx n) (fun n i hi _ k => hs n i hi (k trivial))
end
section
/-! what a repair and a crash do to the relation -/
def cd_R (c : Nat) (lv vx : Nat → Int32) (C : Nat → Nat) (vy ho : Nat → Int32) : Prop :=
  (∀ j, j < 256 → C j ≤ min c (cd_c lv 0 256)) ∧ (∀ j, j < 256 → ¬ C j = 0 → vy j = vx j) ∧
  (∀ k n, k < 256 → n < 256 → ¬ C k = 0 → ho (k * 256 + n) = cd_h lv (C k) k n)
theorem cd_Rrep {c : Nat} {lv vx : Nat → Int32} {C : Nat → Nat} {vy ho : Nat → Int32} (hv : ∀ j, j < 256 → ¬ C j = 0 → vy j = vx j) :
    cd_R c lv vx (cd_x C (min c (cd_c lv 0 256)) 256) vy (cd_rp lv c C ho 256) := by
  refine ⟨fun j hj => ?_, fun j hj h => ?_, fun k n hk hn h => ?_⟩
  · by_cases z : C j = 0
    · rw [cd_xz z]
      exact Nat.zero_le _
    · rw [cd_xin hj z]
      exact Nat.le_refl _
  · exact hv j hj (fun z => h (cd_xz z))
  · have z : ¬ C k = 0 := fun z => h (cd_xz z)
    rw [cd_rpb lv ho hk hn z, cd_xin hk z, cd_hm hk hn]
theorem cd_Rz {c : Nat} {lv vx : Nat → Int32} {C : Nat → Nat} {vy ho : Nat → Int32} (h : ∀ j, j < 256 → C j = 0) : cd_R c lv vx C vy ho :=
  ⟨fun j hj => by rw [h j hj]; exact Nat.zero_le _, fun j hj z => absurd (h j hj) z, fun k n hk _ z => absurd (h k hk) z⟩
theorem cd_xn (C : Nat → Nat) {m : Nat} (hm : ¬ m = 0) : cd_n (cd_x C m 256) 256 = cd_n C 256 := cd_sc 256 (fun j _ => cd_xq C 256 hm j)
theorem cd_xnz {C : Nat → Nat} : ∀ j, j < 256 → cd_x C 0 256 j = 0 := by
  intro j hj
  by_cases z : C j = 0
  · exact cd_xz z
  · exact cd_xin hj z
theorem cd_nz {C : Nat → Nat} (h : ∀ j, j < 256 → C j = 0) : cd_n C 256 = 0 := cd_s0 256 (fun j hj => cd_q0 (h j hj))
/-- the crash of node d, keys below i done -/
def cd_J (lv : Nat → Int32) (C : Nat → Nat) (vy ho : Nat → Int32) (d i : Nat) (vy' ho' : Nat → Int32) : Prop :=
  (∀ j, j < 256 → ¬ cd_y lv C d i j = 0 → vy' j = vy j) ∧
  (∀ k n, k < 256 → n < 256 → k < i → ¬ cd_y lv C d i k = 0 → ho' (k * 256 + n) = cd_h (upd lv d 0) (cd_y lv C d i k) k n) ∧
  (∀ k n, k < 256 → n < 256 → i ≤ k → ho' (k * 256 + n) = ho (k * 256 + n))
theorem cd_J0 (lv : Nat → Int32) (C : Nat → Nat) (vy ho : Nat → Int32) (d : Nat) : cd_J lv C vy ho d 0 vy ho :=
  ⟨fun _ _ _ => rfl, fun _ _ _ _ z => absurd z (Nat.not_lt_zero _), fun _ _ _ _ _ => rfl⟩
theorem cd_blkne {k m n p : Nat} (hn : n < 256) (hp : p < 256) (h : k ≠ m ∨ n ≠ p) : k * 256 + n ≠ m * 256 + p := by omega
theorem cd_Ja {lv : Nat → Int32} {C : Nat → Nat} {vy ho : Nat → Int32} {d i : Nat} {vy' ho' : Nat → Int32} (hd : d < 256) (hi : i < 256) (hl : ¬ lv d = 0)
    (hh : cd_h lv (C i) i d = 0) (ho1 : ¬ C i = 0 → ∀ n, n < 256 → ho (i * 256 + n) = cd_h lv (C i) i n) (J : cd_J lv C vy ho d i vy' ho') :
    cd_J lv C vy ho d (i + 1) vy' ho' := by
  have e := cd_yf hh
  refine ⟨fun j hj z => ?_, fun k n hk hn z y => ?_, fun k n hk hn z => J.2.2 k n hk hn (by omega)⟩
  · rw [← e] at z
    exact J.1 j hj z
  · by_cases q : k = i
    · subst q
      rw [cd_yin lv C d z] at y ⊢
      have c1 : ¬ C k = 0 := by omega
      rw [J.2.2 k n hk hn (Nat.le_refl _), ho1 c1 n hn]
      obtain ⟨a1, a2⟩ := cd_crash (c := C k) hk hd hn hl
      by_cases w : n = d
      · rw [a1 w, w, hh]
      · rw [a2 w]
    · rw [← e] at y ⊢
      exact J.2.1 k n hk hn (by omega) y
theorem cd_Jb {lv : Nat → Int32} {C : Nat → Nat} {vy ho : Nat → Int32} {d i : Nat} {vy' ho' : Nat → Int32} (hd : d < 256)
    (hh : ¬ cd_h lv (C i) i d = 0) (c1 : C i = 1) (J : cd_J lv C vy ho d i vy' ho') :
    cd_J lv C vy ho d (i + 1) (upd vy' i 0) (cd_dk i (upd ho' (i * 256 + d) 0)) := by
  have z0 : cd_y lv C d (i + 1) i = 0 := by
    rw [cd_yin lv C d (Nat.lt_succ_self i), cd_b1 hh, c1]
  have ne : ∀ j, ¬ cd_y lv C d (i + 1) j = 0 → j ≠ i := by
    intro j h e
    rw [e] at h
    exact h z0
  have same : ∀ j, j ≠ i → cd_y lv C d (i + 1) j = cd_y lv C d i j := by
    intro j h
    rw [← cd_ys, cd_un h]
  refine ⟨fun j hj z => ?_, fun k n hk hn z y => ?_, fun k n hk hn z => ?_⟩
  · have q := ne j z
    rw [same j q] at z
    rw [pk_un q]
    exact J.1 j hj z
  · have q := ne k y
    rw [same k q] at y ⊢
    rw [cd_dko hn q, pk_un (cd_blkne hn hd (Or.inl q))]
    exact J.2.1 k n hk hn (by omega) y
  · have q : k ≠ i := by omega
    rw [cd_dko hn q, pk_un (cd_blkne hn hd (Or.inl q))]
    exact J.2.2 k n hk hn (by omega)
theorem cd_Jc {lv : Nat → Int32} {C : Nat → Nat} {vy ho : Nat → Int32} {d i : Nat} {vy' ho' : Nat → Int32} (hd : d < 256) (hl : ¬ lv d = 0)
    (hh : ¬ cd_h lv (C i) i d = 0) (ho1 : ∀ n, n < 256 → ho (i * 256 + n) = cd_h lv (C i) i n) (J : cd_J lv C vy ho d i vy' ho') :
    cd_J lv C vy ho d (i + 1) vy' (upd ho' (i * 256 + d) 0) := by
  have c0 := (cd_hi hh).2
  have same : ∀ j, j ≠ i → cd_y lv C d (i + 1) j = cd_y lv C d i j := by
    intro j h
    rw [← cd_ys, cd_un h]
  refine ⟨fun j hj z => ?_, fun k n hk hn z y => ?_, fun k n hk hn z => ?_⟩
  · refine J.1 j hj ?_
    by_cases q : j = i
    · rw [q, cd_yr]
      omega
    · rw [same j q] at z
      exact z
  · by_cases q : k = i
    · subst q
      rw [cd_yin lv C d z]
      obtain ⟨a1, a2⟩ := cd_crash (c := C k) hk hd hn hl
      by_cases w : n = d
      · rw [a1 w, w, pk_us]
      · rw [a2 w, pk_un (cd_blkne hn hd (Or.inr w)), J.2.2 k n hk hn (Nat.le_refl _), ho1 n hn]
    · rw [same k q] at y ⊢
      rw [pk_un (cd_blkne hn hd (Or.inl q))]
      exact J.2.1 k n hk hn (by omega) y
  · rw [pk_un (cd_blkne hn hd (Or.inl (by omega)))]
    exact J.2.2 k n hk hn (by omega)
theorem cd_any {lv : Nat → Int32} {C : Nat → Nat} {vy ho : Nat → Int32} {d i : Nat} {vy' ho' : Nat → Int32} (hd : d < 256) (hi : i < 256)
    (hc : C i ≤ cd_c lv 0 256) (hh : ¬ cd_h lv (C i) i d = 0) (ho1 : ∀ n, n < 256 → ho (i * 256 + n) = cd_h lv (C i) i n) (J : cd_J lv C vy ho d i vy' ho') :
    (C i = 1 → ∀ n, n < 256 → upd ho' (i * 256 + d) 0 (i * 256 + n) = 0) ∧ (C i ≠ 1 → ∃ n, n < 256 ∧ ¬ upd ho' (i * 256 + d) 0 (i * 256 + n) = 0) := by
  obtain ⟨o1, o2⟩ := cd_other hi hd hc hh
  refine ⟨fun c1 n hn => ?_, fun c1 => ?_⟩
  · by_cases w : n = d
    · rw [w, pk_us]
    · rw [pk_un (cd_blkne hn hd (Or.inr w)), J.2.2 i n hi hn (Nat.le_refl _), ho1 n hn]
      exact o1 c1 n hn w
  · obtain ⟨n, hn, w, g⟩ := o2 c1
    refine ⟨n, hn, ?_⟩
    rw [pk_un (cd_blkne hn hd (Or.inr w)), J.2.2 i n hi hn (Nat.le_refl _), ho1 n hn]
    exact g
theorem cd_Rcr {c : Nat} {lv vx : Nat → Int32} {C : Nat → Nat} {vy ho : Nat → Int32} {d : Nat} {vy' ho' : Nat → Int32} (hd : d < 256) (hl : ¬ lv d = 0)
    (R : cd_R c lv vx C vy ho) (J : cd_J lv C vy ho d 256 vy' ho') : cd_R c (upd lv d 0) vx (cd_y lv C d 256) vy' ho' := by
  refine ⟨fun j hj => ?_, fun j hj z => ?_, fun k n hk hn z => J.2.1 k n hk hn hk z⟩
  · rw [cd_yin lv C d hj]
    exact cd_crashC hj hd hl (R.1 j hj)
  · have z2 := z
    rw [cd_yin lv C d hj] at z2
    rw [J.1 j hj z]
    exact R.2.1 j hj (by omega)
end
section
/-! the component's own methods, each with a general post -/
theorem cd_ge : (256 : Int32) ≤ nI 256 := by
  rw [cd_256]
  exact nI_le (Nat.le_refl _) (by decide)
theorem cd_nge {i : Nat} (h : i < 256) : ¬ (256 : Int32) ≤ nI i := by
  rw [cd_256]
  exact nI_ge h (by decide)
theorem cd_n256 : ¬ (256 : Int32) = 0 := by decide
theorem cd_cl {n : Nat} (h : n < 65536) : (nI n).toNatClampNeg = n := nI_clamp (by omega)
theorem cd_vi {n : Nat} (h : n < 256) : vp_in (nI n) 256 := vp_in_nI h (by decide)
theorem cd_vh {n : Nat} (h : n < 65536) : vp_in (nI n) 65536 := vp_in_nI h (by decide)
theorem cd_p1 {x : Nat} (h : 0 < x) : nI x - 1 = nI (x - 1) := by
  obtain ⟨y, rfl⟩ : ∃ y, x = y + 1 := ⟨x - 1, by omega⟩
  exact nI_pred y
section
variable {mn mk mc ln sk cr : Int32} {lv vx cp : Nat → Int32} {C : Nat → Nat}
theorem cx_in {post : Int32 → Prop} {j : Nat} (hj : j < 256) (h : post 1) : wpX_inRange post (nI j) :=
  br_f (nI_pos (by omega)) (br_f (cd_nge hj) h)
theorem cx_out {post : Int32 → Prop} {x : Int32} (hx : x < 0 ∨ nI 256 ≤ x) (h : post 0) : wpX_inRange post x := by
  by_cases z : x < 0
  · exact br_t z h
  · refine br_f z (br_t ?_ h)
    rw [cd_256]
    exact hx.resolve_left z
theorem cx_isStored {post : Int32 → Prop} {k : Nat} (hk : k < 256) (hC : C k < 65536) (h0 : C k = 0 → post 0) (h1 : ¬ C k = 0 → post 1) :
    wpX_isStored post (mn, mk, mc, ln, sk, cr, lv, vx, fun j => nI (C j)) (nI k) := by
  unfold wpX_isStored
  dsimp only
  rw [cd_cl (by omega : k < 65536)]
  exact ⟨cd_vi hk, pk_le (C k) 0 (fun h => h0 (by omega)) (fun h => h1 (by omega))⟩
theorem cx_full {post : Int32 → Prop} {c l : Nat} (hc : c < 65536) (hl : l < 65536) (h : post (nI (min c l))) :
    wpX_fullCopies post (mn, mk, nI c, nI l, sk, cr, lv, vx, cp) := by
  unfold wpX_fullCopies
  dsimp only
  refine pk_le c l (fun q => ?_) (fun q => ?_)
  · rw [Nat.min_eq_left q] at h
    exact h
  · rw [Nat.min_eq_right (by omega)] at h
    exact h
theorem cx_repair {post : SX → Prop} {c l : Nat} (hc : c < 65536) (hl : l < 65536) (hC : ∀ j, j < 256 → C j < 65536)
    (h0 : l = 0 → post (mn, mk, nI c, nI l, 0, 0, lv, vx, fun j => nI (cd_x C (min c l) 256 j)))
    (h1 : ¬ l = 0 → post (mn, mk, nI c, nI l, sk, 0, lv, vx, fun j => nI (cd_x C (min c l) 256 j))) :
    wpX_repair post (mn, mk, nI c, nI l, sk, cr, lv, vx, fun j => nI (C j)) := by
  unfold wpX_repair
  dsimp only
  refine cx_full hc hl ?_
  have key : ∃ n, wX_repair_7 post (nI (min c l)) mn mk (nI c) (nI l) sk cr n (nI 0) lv vx (fun j => nI (cd_x C (min c l) 0 j)) :=
    cd_lq (fun n i => wX_repair_7 post (nI (min c l)) mn mk (nI c) (nI l) sk cr n (nI i) lv vx (fun j => nI (cd_x C (min c l) i j))) 256
      (fun n => br_t cd_ge (pk_eq l 0 h0 h1))
      (fun n i hi hW => br_f (cd_nge hi) (cx_isStored (C := cd_x C (min c l) i) hi (by rw [cd_xr]; exact hC i hi)
        (fun z => br_t rfl (nm_r (nI_1 i) (by rw [cd_xr] at z; rw [cd_xf z]; exact hW)))
        (fun z => br_f cd_one ⟨cd_vi hi, nm_r (by rw [cd_cl (by omega), cd_uI (cd_x C (min c l) i) i (min c l), cd_xt (by rw [cd_xr] at z; exact z)]) (nm_r (nI_1 i) hW)⟩)))
  rw [cd_x0] at key
  exact key
theorem cx_before {post : Int32 → Prop} {k n : Nat} (hk : k < 256) (hn : n < 256) (h : post (nI (cd_c lv k (cd_d k n)))) :
    wpX_liveNodesBefore post (mn, mk, mc, ln, sk, cr, lv, vx, cp) (nI n) (nI k) := by
  have dl := cd_dl k n
  unfold wpX_liveNodesBefore
  dsimp only
  refine ⟨cd_n256, nm_r (cd_ds hk hn) ?_⟩
  refine cd_lq (fun q i => wX_liveNodesBefore_18 post (nI k) (nI (cd_d k n)) mn mk mc ln sk cr lv vx cp q (nI (cd_c lv k i)) (nI i)) (cd_d k n)
    (fun q => br_t (Int32.le_refl _) h) (fun q i hi hW => br_f (nI_ge hi (by omega)) ⟨cd_n256, ?_⟩)
  have i2 : i < 256 := by omega
  have ml : (k + i) % 256 < 256 := Nat.mod_lt _ (by decide)
  rw [cd_md hk i2, cd_cl (by omega : (k + i) % 256 < 65536)]
  by_cases z : lv ((k + i) % 256) = 0
  · exact ⟨cd_vi ml, br_t z (nm_r (nI_1 i) (by rw [← cd_cf z]; exact hW))⟩
  · exact ⟨cd_vi ml, br_f z (nm_r (nI_1 _) (nm_r (nI_1 i) (by rw [← cd_ct z]; exact hW)))⟩
theorem cx_isHolder {post : Int32 → Prop} {k n : Nat} (hk : k < 256) (hn : n < 256) (hC : C k < 65536) (h0 : cd_h lv (C k) k n = 0 → post 0)
    (h1 : ¬ cd_h lv (C k) k n = 0 → post 1) : wpX_isHolder post (mn, mk, mc, ln, sk, cr, lv, vx, fun j => nI (C j)) (nI n) (nI k) := by
  have dl := cd_dl k n
  have cl := cd_cle lv k (cd_d k n)
  unfold wpX_isHolder
  dsimp only
  refine cx_isStored hk hC (fun z => br_t rfl (h0 (by rw [z]; exact cd_hz _ _ _))) (fun z => br_f cd_one ?_)
  rw [cd_cl (by omega : n < 65536)]
  refine ⟨cd_vi hn, br_c (fun y => h0 (cd_hd y)) (fun y => cx_before hk hn ⟨cd_vi hk, ?_⟩)⟩
  rw [cd_cl (by omega : k < 65536)]
  exact pk_le (C k) (cd_c lv k (cd_d k n)) (fun q => h0 (cd_hf (by omega))) (fun q => h1 (cd_hj y q))
theorem cx_drop {post : Int32 → SX → Prop} {d : Nat} (hd : d < 256) (hC : ∀ j, j < 256 → C j < 65536)
    (h : post (nI (cd_l lv C d 256)) (mn, mk, mc, ln, sk, cr, lv, vx, fun j => nI (cd_y lv C d 256 j))) :
    wpX_dropCopiesAt post (mn, mk, mc, ln, sk, cr, lv, vx, fun j => nI (C j)) (nI d) := by
  unfold wpX_dropCopiesAt
  dsimp only
  have key : ∃ n, wX_dropCopiesAt_4 post (nI d) mn mk mc ln sk cr n (nI (cd_l lv C d 0)) (nI 0) lv vx (fun j => nI (cd_y lv C d 0 j)) := by
    refine cd_lq (fun n i => wX_dropCopiesAt_4 post (nI d) mn mk mc ln sk cr n (nI (cd_l lv C d i)) (nI i) lv vx (fun j => nI (cd_y lv C d i j))) 256
      (fun n => br_t cd_ge h) (fun n i hi hW => br_f (cd_nge hi) (cx_isHolder (C := cd_y lv C d i) hi hd (by rw [cd_yr]; exact hC i hi) (fun z => ?_) (fun z => ?_)))
    · rw [cd_yr] at z
      refine br_t rfl (nm_r (nI_1 i) ?_)
      have e : cd_l lv C d (i + 1) = cd_l lv C d i := by
        show cd_l lv C d i + cd_w lv C d i = _
        rw [cd_w0 z]
        rfl
      rw [cd_yf z, ← e]
      exact hW
    · rw [cd_yr] at z
      have p := (cd_hi z).2
      have b := cd_b1 z
      have hCi := hC i hi
      have e : upd (fun j => nI (cd_y lv C d i j)) (nI i).toNatClampNeg (nI (cd_y lv C d i (nI i).toNatClampNeg) - 1) = fun j => nI (cd_y lv C d (i + 1) j) := by
        rw [cd_cl (by omega : i < 65536), cd_yr, cd_p1 (by omega), cd_uI (cd_y lv C d i) i (C i - 1), ← cd_ys, b]
      have y2 : cd_y lv C d (i + 1) i = C i - 1 := by
        rw [cd_yin lv C d (Nat.lt_succ_self i), b]
      refine br_f cd_one ⟨cd_vi hi, cd_vi hi, nm_r e (cx_isStored (C := cd_y lv C d (i + 1)) hi (by rw [y2]; omega) (fun w => ?_) (fun w => ?_))⟩
      · rw [y2] at w
        have e : cd_l lv C d (i + 1) = cd_l lv C d i + 1 := by
          show cd_l lv C d i + cd_w lv C d i = _
          rw [cd_w1 z (by omega)]
        refine br_t rfl (nm_r (nI_1 _) (nm_r (nI_1 i) ?_))
        rw [← e]
        exact hW
      · rw [y2] at w
        have e : cd_l lv C d (i + 1) = cd_l lv C d i := by
          show cd_l lv C d i + cd_w lv C d i = _
          rw [cd_w2 z (by omega)]
          rfl
        refine br_f cd_one (nm_r (nI_1 i) ?_)
        rw [← e]
        exact hW
  rw [cd_y0] at key
  exact key
/-- what is missing at key k -/
def cd_g (C : Nat → Nat) (m k : Nat) : Nat := if C k = 0 then 0 else m - C k
theorem cd_g0 {m k : Nat} (h : C k = 0) : cd_g C m k = 0 := if_pos h
theorem cd_g1 {m k : Nat} (h : ¬ C k = 0) : cd_g C m k = m - C k := if_neg h
theorem cx_missing {post : Int32 → Prop} {c l : Nat} (hc : c < 65536) (hl : l < 65536) (hC : ∀ j, j < 256 → C j ≤ min c l)
    (h : post (nI (cd_s (cd_g C (min c l)) 256))) : wpX_missingCopies post (mn, mk, nI c, nI l, sk, cr, lv, vx, fun j => nI (C j)) := by
  unfold wpX_missingCopies
  dsimp only
  refine cx_full hc hl ?_
  refine cd_lq (fun n i => wX_missingCopies_9 post (nI (min c l)) mn mk (nI c) (nI l) sk cr lv vx (fun j => nI (C j)) n (nI (cd_s (cd_g C (min c l)) i)) (nI i)) 256
    (fun n => br_t cd_ge h) (fun n i hi hW => br_f (cd_nge hi) (cx_isStored hi (by have := hC i hi; omega) (fun z => ?_) (fun z => ?_)))
  · refine br_t rfl (nm_r (nI_1 i) ?_)
    have e : cd_s (cd_g C (min c l)) (i + 1) = cd_s (cd_g C (min c l)) i := by
      rw [cd_ss, cd_g0 z]
      rfl
    rw [← e]
    exact hW
  · have e : cd_s (cd_g C (min c l)) (i + 1) = cd_s (cd_g C (min c l)) i + (min c l - C i) := by
      rw [cd_ss, cd_g1 z]
    refine br_f cd_one ⟨cd_vi hi, nm_r (e' := nI (cd_s (cd_g C (min c l)) (i + 1))) ?_ (nm_r (nI_1 i) hW)⟩
    rw [cd_cl (by omega : i < 65536), pk_sub (hC i hi), nI_add, e]
theorem cx_from {post : Int32 → Prop} {k p : Nat} (hk : k < 256) (hp : p < 2 ^ 31) (h0 : cd_c lv k 256 ≤ p → post (-1))
    (h1 : ∀ d, d < 256 → ¬ lv ((k + d) % 256) = 0 → cd_c lv k d = p → post (nI ((k + d) % 256))) :
    wpX_liveNodeFrom post (mn, mk, mc, ln, sk, cr, lv, vx, cp) (nI k) (nI p) := by
  unfold wpX_liveNodeFrom
  dsimp only
  refine cd_lp (fun n i => wX_liveNodeFrom_5 post (nI k) (nI p) mn mk mc ln sk cr lv vx cp n (nI (cd_c lv k i)) (nI i)) (fun i => cd_c lv k i ≤ p) 256
    (Nat.zero_le _) (fun n h => br_t cd_ge (h0 h)) (fun n i hi hI hW => br_f (cd_nge hi) ⟨cd_n256, nm_r (cd_md hk hi) ?_⟩)
  have ml : (k + i) % 256 < 256 := Nat.mod_lt _ (by decide)
  have cl := cd_cle lv k i
  rw [cd_cl (by omega : (k + i) % 256 < 65536)]
  refine ⟨cd_vi ml, ?_⟩
  by_cases z : lv ((k + i) % 256) = 0
  · refine br_t z (nm_r (nI_1 i) ?_)
    have e := cd_cf z
    rw [← e]
    exact hW (by omega)
  · refine br_f z (pk_eq (cd_c lv k i) p (fun q => h1 i hi z q) (fun q => nm_r (nI_1 _) (nm_r (nI_1 i) ?_)))
    have e := cd_ct z
    rw [← e]
    exact hW (by omega)
/-- the keys below i that node d holds -/
def cd_t (lv : Nat → Int32) (C : Nat → Nat) (d i : Nat) : Nat := cd_s (fun k => cd_b (cd_h lv (C k) k d)) i
theorem cd_tt {d i : Nat} (h : ¬ cd_h lv (C i) i d = 0) : cd_t lv C d (i + 1) = cd_t lv C d i + 1 := by
  show cd_t lv C d i + cd_b (cd_h lv (C i) i d) = _
  rw [cd_b1 h]
theorem cd_tf {d i : Nat} (h : cd_h lv (C i) i d = 0) : cd_t lv C d (i + 1) = cd_t lv C d i := by
  show cd_t lv C d i + cd_b (cd_h lv (C i) i d) = _
  rw [cd_b0 h]
  rfl
theorem cd_tl (lv : Nat → Int32) (C : Nat → Nat) (d i : Nat) : cd_t lv C d i ≤ i := by
  have a := cd_sl (f := fun k => cd_b (cd_h lv (C k) k d)) (m := 1) i (fun j _ => cd_bl _)
  rw [Nat.mul_one] at a
  exact a
theorem cd_tz {d : Nat} (h : lv d = 0) (i : Nat) : cd_t lv C d i = 0 := cd_s0 i (fun j _ => cd_b0 (cd_hd h))
theorem cx_keys {post : Int32 → Prop} {d : Nat} (hd : d < 256) (hC : ∀ j, j < 256 → C j < 65536) (h : post (nI (cd_t lv C d 256))) :
    ∃ n, wX_keysAt_13 post (nI d) mn mk mc ln sk cr lv vx (fun j => nI (C j)) n 0 0 := by
  refine cd_lq (fun n i => wX_keysAt_13 post (nI d) mn mk mc ln sk cr lv vx (fun j => nI (C j)) n (nI (cd_t lv C d i)) (nI i)) 256
    (fun n => br_t cd_ge h) (fun n i hi hW => br_f (cd_nge hi) (cx_isHolder hi hd (hC i hi) (fun z => br_t rfl (nm_r (nI_1 i) ?_)) (fun z => br_f cd_one (nm_r (nI_1 _) (nm_r (nI_1 i) ?_)))))
  · rw [← cd_tf z]
    exact hW
  · rw [← cd_tt z]
    exact hW
theorem cx_key {post : Int32 → Prop} {d p : Nat} (hd : d < 256) (hp : p < 2 ^ 31) (hC : ∀ j, j < 256 → C j < 65536) (h0 : cd_t lv C d 256 ≤ p → post (-1))
    (h1 : ∀ i, i < 256 → ¬ cd_h lv (C i) i d = 0 → cd_t lv C d i = p → post (nI i)) :
    ∃ n, wX_keyAt_18 post (nI d) (nI p) mn mk mc ln sk cr lv vx (fun j => nI (C j)) n 0 0 := by
  refine cd_lp (fun n i => wX_keyAt_18 post (nI d) (nI p) mn mk mc ln sk cr lv vx (fun j => nI (C j)) n (nI (cd_t lv C d i)) (nI i)) (fun i => cd_t lv C d i ≤ p) 256
    (Nat.zero_le _) (fun n h => br_t cd_ge (h0 h)) (fun n i hi hI hW => br_f (cd_nge hi) (cx_isHolder hi hd (hC i hi) (fun z => br_t rfl (nm_r (nI_1 i) ?_)) (fun z => br_f cd_one ?_)))
  · have e := cd_tf z
    rw [← e]
    exact hW (by omega)
  · have cl := cd_tl lv C d i
    refine pk_eq (cd_t lv C d i) p (fun q => h1 i hi z q) (fun q => nm_r (nI_1 _) (nm_r (nI_1 i) ?_))
    have e := cd_tt z
    rw [← e]
    exact hW (by omega)
end
end
section
/-! the reference's own methods, each with a general post -/
section
variable {mn mk rp pe : Int32} {lv st va ho : Nat → Int32} {C : Nat → Nat} {nh : Nat}
theorem cd_255 : (255 : Int32) = nI 255 := by decide +kernel
theorem cy_in {post : Int32 → Prop} {j : Nat} (hj : j < 256) (h : post 1) : wpY_inRange post (mn, mk, rp, pe, lv, st, va, ho, nh) (nI j) := by
  refine br_f (nI_pos (by omega)) (br_f ?_ h)
  rw [cd_255]
  exact nI_nlt (by omega) (by decide)
theorem cy_out {post : Int32 → Prop} {x : Int32} (hx : x < 0 ∨ nI 256 ≤ x) (h : post 0) : wpY_inRange post (mn, mk, rp, pe, lv, st, va, ho, nh) x := by
  by_cases z : x < 0
  · exact br_t z h
  · refine br_f z (br_t ?_ h)
    obtain ⟨j, hj, rfl⟩ := nI_of z
    have q := hx.resolve_left z
    rw [nI_leI (by decide) hj] at q
    rw [cd_255]
    exact nI_lt (by omega) hj
theorem cd_m256 {i : Nat} (h : i < 256) : (0 + i) % 256 = i := by omega
theorem cy_count {post : Int32 → Prop} (h : post (nI (cd_c lv 0 256))) : wpY_countLive post (mn, mk, rp, pe, lv, st, va, ho, nh) := by
  unfold wpY_countLive
  dsimp only
  refine cd_lq (fun n i => wY_countLive_4 post mn mk rp pe lv st va ho nh n (nI (cd_c lv 0 i)) (nI i)) 256
    (fun n => br_t cd_ge h) (fun n i hi hW => br_f (cd_nge hi) ⟨cd_vi hi, ?_⟩)
  rw [cd_cl (by omega : i < 65536)]
  by_cases z : lv i = 0
  · have z2 : lv ((0 + i) % 256) = 0 := by
      rw [cd_m256 hi]
      exact z
    exact br_t z (nm_r (nI_1 i) (by rw [← cd_cf z2]; exact hW))
  · have z2 : ¬ lv ((0 + i) % 256) = 0 := by
      rw [cd_m256 hi]
      exact z
    exact br_f z (nm_r (nI_1 _) (nm_r (nI_1 i) (by rw [← cd_ct z2]; exact hW)))
theorem cd_qI {x : Nat} (h : x = 0) : nI (cd_q x) = 0 := by
  rw [cd_q0 h]
  rfl
theorem cd_qJ {x : Nat} (h : ¬ x = 0) : ¬ nI (cd_q x) = 0 := by
  rw [cd_q1 h]
  decide
theorem cy_keyCount {post : Int32 → Prop} (h : post (nI (cd_n C 256))) : wpY_keyCount post (mn, mk, rp, pe, lv, (fun j => nI (cd_q (C j))), va, ho, nh) := by
  unfold wpY_keyCount
  dsimp only
  refine cd_lq (fun n i => wY_keyCount_4 post mn mk rp pe lv (fun j => nI (cd_q (C j))) va ho nh n (nI (cd_n C i)) (nI i)) 256
    (fun n => br_t cd_ge h) (fun n i hi hW => br_f (cd_nge hi) ⟨cd_vi hi, ?_⟩)
  rw [cd_cl (by omega : i < 65536)]
  by_cases z : C i = 0
  · have e : cd_n C (i + 1) = cd_n C i := by
      show cd_n C i + cd_q (C i) = _
      rw [cd_q0 z]
      rfl
    exact br_t (cd_qI z) (nm_r (nI_1 i) (by rw [← e]; exact hW))
  · have e : cd_n C (i + 1) = cd_n C i + 1 := by
      show cd_n C i + cd_q (C i) = _
      rw [cd_q1 z]
    exact br_f (cd_qJ z) (nm_r (nI_1 _) (nm_r (nI_1 i) (by rw [← e]; exact hW)))
theorem cy_80 {post : Int32 → SY → Prop} {J : Int32 → Int32 → Int32 → (Nat → Int32) → (Nat → Int32) → (Nat → Int32) → (Nat → Int32) → Prop} {k d a b : Nat} {x7 : Int32} {c : Nat} {h0 : Nat → Int32}
    (hk : k < 256) (hd : d < 256) (hx : cd_h lv c k ((k + d) % 256) = x7) (hJ : J (nI a) (nI b) (nI (d + 1)) lv st va (cd_sp lv c k h0 (d + 1))) :
    wY_setTop_80 post J (nI k) (nI a) (nI b) (nI d) (nI ((k + d) % 256)) x7 mn mk rp pe lv st va (cd_sp lv c k h0 d) 65536 := by
  have ml : (k + d) % 256 < 256 := Nat.mod_lt _ (by decide)
  have v01 : x7 = 0 ∨ x7 = 1 := by
    rw [← hx]
    exact cd_h01 _ _ _ _
  unfold wY_setTop_80
  rw [cd_ix, cd_cl (by omega : k * 256 + (k + d) % 256 < 65536), cd_vb v01, ← hx, cd_sps lv h0 hk hd]
  exact ⟨cd_vh (by omega), nm_e (nm_r (nI_1 d) hJ)⟩
theorem cy_setTop {post : Int32 → SY → Prop} {k c : Nat} (hk : k < 256) (hc : c < 65536)
    (h : post (nI (cd_r lv (fun n => ho (k * 256 + n)) c k 256)) (mn, mk, nI c, pe, lv, st, va, cd_st lv c k ho, 65536)) :
    wpY_setTop post (mn, mk, nI c, pe, lv, st, va, ho, 65536) (nI k) := by
  unfold wpY_setTop
  dsimp only
  have key : ∃ n, wY_setTop_7 post (nI k) mn mk (nI c) pe 65536 n (nI (min (cd_c lv k 0) c)) (nI (cd_r lv (fun n => ho (k * 256 + n)) c k 0)) (nI 0) lv st va (cd_sp lv c k ho 0) := by
    refine cd_lq (fun n d => wY_setTop_7 post (nI k) mn mk (nI c) pe 65536 n (nI (min (cd_c lv k d) c)) (nI (cd_r lv (fun n => ho (k * 256 + n)) c k d)) (nI d) lv st va (cd_sp lv c k ho d)) 256
      (fun n => br_t cd_ge (by rw [cd_spe]; exact h)) (fun n d hd hW => br_f (cd_nge hd) ⟨cd_n256, nm_r (cd_md hk hd) ?_⟩)
    have ml : (k + d) % 256 < 256 := Nat.mod_lt _ (by decide)
    have cl := cd_cle lv k d
    have er : cd_r lv (fun n => ho (k * 256 + n)) c k (d + 1) = cd_r lv (fun n => ho (k * 256 + n)) c k d + cd_e lv (fun n => ho (k * 256 + n)) c k d := rfl
    rw [cd_ix, cd_cl (by omega : k * 256 + (k + d) % 256 < 65536), cd_cl (by omega : (k + d) % 256 < 65536), cd_spr lv ho hk hd]
    refine ⟨cd_vh (by omega), nm_e ⟨cd_vi ml, ?_⟩⟩
    by_cases z : lv ((k + d) % 256) = 0
    · refine br_t z (br_t rfl (cy_80 hk hd (cd_hd z) ?_))
      rw [cd_e0 z] at er
      replace er := er.trans (Nat.add_zero _)
      rw [← cd_cf z, ← er]
      exact hW
    · refine br_f z (pk_le c (min (cd_c lv k d) c) (fun q => br_t rfl (cy_80 hk hd (cd_hsf hk hd (by omega)) ?_)) (fun q => nm_r (nI_1 _) (br_f cd_one ?_)))
      · have e1 : min (cd_c lv k (d + 1)) c = min (cd_c lv k d) c := by
          have := cd_ct z
          omega
        rw [cd_e1 (by omega)] at er
        replace er := er.trans (Nat.add_zero _)
        rw [← e1, ← er]
        exact hW
      · have e1 : min (cd_c lv k (d + 1)) c = min (cd_c lv k d) c + 1 := by
          have := cd_ct z
          omega
        have e2 : cd_h lv c k ((k + d) % 256) = 1 := cd_hst hk hd z (by omega)
        by_cases y : ho (k * 256 + (k + d) % 256) = 0
        · rw [cd_e3 z (by omega) y] at er
          refine br_t y (nm_r (nI_1 _) (cy_80 hk hd e2 ?_))
          rw [← e1, ← er]
          exact hW
        · rw [cd_e2 y] at er
          replace er := er.trans (Nat.add_zero _)
          refine br_f y (cy_80 hk hd e2 ?_)
          rw [← e1, ← er]
          exact hW
  have e0 : min (cd_c lv k 0) c = 0 := Nat.zero_min c
  rw [cd_sp0, e0] at key
  exact key
theorem cy_dropKey {post : SY → Prop} {k : Nat} (hk : k < 256) (h : post (mn, mk, rp, pe, lv, upd st k 0, upd va k 0, cd_dk k ho, 65536)) :
    wpY_dropKey post (mn, mk, rp, pe, lv, st, va, ho, 65536) (nI k) := by
  unfold wpY_dropKey
  dsimp only
  rw [cd_cl (by omega : k < 65536), cd_v0]
  refine ⟨cd_vi hk, nm_e ⟨cd_vi hk, nm_e ?_⟩⟩
  have key : ∃ n, wY_dropKey_16 post (nI k) mn mk rp pe 65536 n (nI 0) lv (upd st k 0) (upd va k 0) (cd_dp k ho 0) := by
    refine cd_lq (fun n i => wY_dropKey_16 post (nI k) mn mk rp pe 65536 n (nI i) lv (upd st k 0) (upd va k 0) (cd_dp k ho i)) 256
      (fun n => br_t cd_ge (by rw [cd_dpe]; exact h)) (fun n i hi hW => br_f (cd_nge hi) ?_)
    rw [cd_ix, cd_cl (by omega : k * 256 + i < 65536), cd_v0, cd_dps k ho hi]
    exact ⟨cd_vh (by omega), nm_e (nm_r (nI_1 i) hW)⟩
  rw [cd_dp0] at key
  exact key
/-- what setTop creates at key k in a repair -/
def cd_z (lv : Nat → Int32) (c : Nat) (C : Nat → Nat) (ho : Nat → Int32) (k : Nat) : Nat := if C k = 0 then 0 else cd_r lv (fun n => ho (k * 256 + n)) c k 256
theorem cd_z0 {c k : Nat} (h : C k = 0) : cd_z lv c C ho k = 0 := if_pos h
theorem cd_z1 {c k : Nat} (h : ¬ C k = 0) : cd_z lv c C ho k = cd_r lv (fun n => ho (k * 256 + n)) c k 256 := if_neg h
theorem cy_repair {post : Int32 → SY → Prop} {c : Nat} (hc : c < 65536)
    (h0 : cd_c lv 0 256 = 0 → ∀ va' ho', post 0 (mn, mk, nI c, 0, lv, (fun j => nI (cd_q (cd_x C 0 256 j))), va', ho', 65536))
    (h1 : ¬ cd_c lv 0 256 = 0 → post (nI (cd_s (cd_z lv c C ho) 256)) (mn, mk, nI c, 0, lv, (fun j => nI (cd_q (C j))), va, cd_rp lv c C ho 256, 65536)) :
    wpY_repair post (mn, mk, nI c, pe, lv, (fun j => nI (cd_q (C j))), va, ho, 65536) := by
  have cl := cd_cle lv 0 256
  unfold wpY_repair
  dsimp only
  refine cy_count (pk_eq (cd_c lv 0 256) 0 (fun z => ?_) (fun z => ?_))
  · have key : ∃ n, wY_repair_11 post 0 n (nI 0) mn mk (nI c) pe lv (fun j => nI (cd_q (cd_x C 0 0 j))) va ho 65536 := by
      refine loop_0 (fun n i (s : (Nat → Int32) × (Nat → Int32)) => wY_repair_11 post 0 n (nI i) mn mk (nI c) pe lv (fun j => nI (cd_q (cd_x C 0 i j))) s.1 s.2 65536) (fun _ _ => True) 256 (va, ho) trivial
        (fun n s _ => br_t cd_ge (h0 z s.1 s.2)) (fun n i s hi _ hW => br_f (cd_nge hi) ⟨cd_vi hi, ?_⟩)
      rw [cd_cl (by omega : i < 65536)]
      by_cases y : C i = 0
      · refine br_t (cd_qI ((cd_xr C 0 i).trans y)) (nm_r (nI_1 i) ?_)
        rw [cd_xf y]
        exact hW s trivial
      · refine br_f (cd_qJ (by rw [cd_xr]; exact y)) (cy_dropKey hi (nm_r (nI_1 i) ?_))
        have e : upd (fun j => nI (cd_q (cd_x C 0 i j))) i 0 = fun j => nI (cd_q (cd_x C 0 (i + 1) j)) := by
          rw [← cd_xt y]
          exact cd_uQ (cd_x C 0 i) i 0
        rw [e]
        exact hW (_, _) trivial
    rw [cd_x0] at key
    exact key
  · have key : ∃ n, wY_repair_43 post n (nI (cd_s (cd_z lv c C ho) 0)) (nI 0) mn mk (nI c) pe lv (fun j => nI (cd_q (C j))) va (cd_rp lv c C ho 0) 65536 := by
      refine cd_lq (fun n i => wY_repair_43 post n (nI (cd_s (cd_z lv c C ho) i)) (nI i) mn mk (nI c) pe lv (fun j => nI (cd_q (C j))) va (cd_rp lv c C ho i) 65536) 256
        (fun n => br_t cd_ge (h1 z)) (fun n i hi hW => br_f (cd_nge hi) ⟨cd_vi hi, ?_⟩)
      rw [cd_cl (by omega : i < 65536)]
      by_cases y : C i = 0
      · refine br_t (cd_qI y) (nm_r (nI_1 i) ?_)
        have e : cd_s (cd_z lv c C ho) (i + 1) = cd_s (cd_z lv c C ho) i := by
          rw [cd_ss, cd_z0 y]
          rfl
        rw [cd_rpf lv ho y, ← e]
        exact hW
      · refine br_f (cd_qJ y) (cy_setTop hi hc ?_)
        have er : cd_r lv (fun n => cd_rp lv c C ho i (i * 256 + n)) c i 256 = cd_r lv (fun n => ho (i * 256 + n)) c i 256 :=
          cd_rc (fun n hn => cd_rpr lv ho hn) 256
        have e : cd_s (cd_z lv c C ho) (i + 1) = cd_s (cd_z lv c C ho) i + cd_r lv (fun n => ho (i * 256 + n)) c i 256 := by
          rw [cd_ss, cd_z1 y]
        rw [er, cd_rpt lv ho y]
        refine nm_r (nI_add _ _) (nm_r (nI_1 i) ?_)
        rw [← e]
        exact hW
    rw [cd_rp0] at key
    exact key
end
end
section
/-! the reference's loops that read or drop holders -/
section
variable {mn mk rp pe : Int32} {lv st va ho : Nat → Int32} {C : Nat → Nat}
theorem cy_any {post : Int32 → SY → Prop} {J : Int32 → Int32 → Int32 → Int32 → Int32 → Int32 → (Nat → Int32) → (Nat → Int32) → (Nat → Int32) → (Nat → Int32) → Nat → Prop} {x1 x2 : Int32} {k : Nat} (hk : k < 256)
    (h0 : (∀ n, n < 256 → ho (k * 256 + n) = 0) → J (x2 + 1) (nI (k + 1)) mn mk rp pe lv (upd st k 0) (upd va k 0) (cd_dk k ho) 65536)
    (h1 : (∃ n, n < 256 ∧ ¬ ho (k * 256 + n) = 0) → J x2 (nI (k + 1)) mn mk rp pe lv st va ho 65536) :
    ∃ n, wY_crash_83 post J x1 x2 (nI k) mn mk rp pe lv st va ho 65536 n 0 0 := by
  refine loop_0 (fun n i (s : Int32) => wY_crash_83 post J x1 x2 (nI k) mn mk rp pe lv st va ho 65536 n s (nI i))
    (fun i s => (s = 0 ∧ ∀ j, j < i → ho (k * 256 + j) = 0) ∨ (s = 1 ∧ ∃ j, j < i ∧ ¬ ho (k * 256 + j) = 0)) 256 0 (Or.inl ⟨rfl, fun j hj => absurd hj (Nat.not_lt_zero _)⟩)
    (fun n s hI => ?_) (fun n i s hi hI hW => br_f (cd_nge hi) ?_)
  · rcases hI with ⟨e, g⟩ | ⟨e, g⟩
    · subst e
      exact br_t cd_ge (br_t rfl (cy_dropKey hk (nm_e (nm_r (nI_1 k) (h0 g)))))
    · subst e
      exact br_t cd_ge (br_f cd_one (nm_r (nI_1 k) (h1 g)))
  · rw [cd_ix, cd_cl (by omega : k * 256 + i < 65536)]
    refine ⟨cd_vh (by omega), ?_⟩
    by_cases z : ho (k * 256 + i) = 0
    · refine br_t z (nm_r (nI_1 i) (hW s ?_))
      rcases hI with ⟨e, g⟩ | ⟨e, j, hj, g⟩
      · refine Or.inl ⟨e, fun j hj => ?_⟩
        by_cases q : j = i
        · rw [q]
          exact z
        · exact g j (by omega)
      · exact Or.inr ⟨e, j, by omega, g⟩
    · exact br_f z (nm_r (nI_1 i) (hW 1 (Or.inr ⟨rfl, i, by omega, z⟩)))
theorem cd_le0 {d i : Nat} (h : cd_h lv (C i) i d = 0) : cd_l lv C d (i + 1) = cd_l lv C d i := by
  show cd_l lv C d i + cd_w lv C d i = _
  rw [cd_w0 h]
  rfl
theorem cd_le1 {d i : Nat} (h : ¬ cd_h lv (C i) i d = 0) (g : C i = 1) : cd_l lv C d (i + 1) = cd_l lv C d i + 1 := by
  show cd_l lv C d i + cd_w lv C d i = _
  rw [cd_w1 h g]
theorem cd_le2 {d i : Nat} (h : ¬ cd_h lv (C i) i d = 0) (g : C i ≠ 1) : cd_l lv C d (i + 1) = cd_l lv C d i := by
  show cd_l lv C d i + cd_w lv C d i = _
  rw [cd_w2 h g]
  rfl
theorem cd_yq {d i : Nat} (h : ¬ cd_h lv (C i) i d = 0) (g : C i ≠ 1) : (fun j => nI (cd_q (cd_y lv C d i j))) = fun j => nI (cd_q (cd_y lv C d (i + 1) j)) := by
  have p := (cd_hi h).2
  funext j
  by_cases q : j = i
  · rw [q, cd_yr, cd_yin lv C d (Nat.lt_succ_self i), cd_b1 h, cd_q1 (by omega), cd_q1 (by omega)]
  · rw [← cd_ys, cd_un q]
theorem cd_yz {d i : Nat} (h : ¬ cd_h lv (C i) i d = 0) (g : C i = 1) : upd (fun j => nI (cd_q (cd_y lv C d i j))) i 0 = fun j => nI (cd_q (cd_y lv C d (i + 1) j)) := by
  rw [← cd_ys, cd_b1 h, g]
  exact cd_uQ (cd_y lv C d i) i 0
theorem cy_crash {post : Int32 → SY → Prop} {d : Nat} (hd : d < 256) (hl : ¬ lv d = 0) (hc : ∀ j, j < 256 → C j ≤ cd_c lv 0 256)
    (hh : ∀ k n, k < 256 → n < 256 → ¬ C k = 0 → ho (k * 256 + n) = cd_h lv (C k) k n)
    (h : ∀ va' ho', cd_J lv C va ho d 256 va' ho' → post (nI (cd_l lv C d 256)) (mn, mk, rp, pe + 1, upd lv d 0, (fun j => nI (cd_q (cd_y lv C d 256 j))), va', ho', 65536)) :
    ∃ n, wY_crash_33 post (nI d) n 0 0 mn mk rp pe (upd lv d 0) (fun j => nI (cd_q (C j))) va ho 65536 := by
  have key : ∃ n, wY_crash_33 post (nI d) n (nI (cd_l lv C d 0)) (nI 0) mn mk rp pe (upd lv d 0) (fun j => nI (cd_q (cd_y lv C d 0 j))) va ho 65536 := by
    refine loop_0 (fun n i (s : (Nat → Int32) × (Nat → Int32)) => wY_crash_33 post (nI d) n (nI (cd_l lv C d i)) (nI i) mn mk rp pe (upd lv d 0) (fun j => nI (cd_q (cd_y lv C d i j))) s.1 s.2 65536)
      (fun i s => cd_J lv C va ho d i s.1 s.2) 256 (va, ho) (cd_J0 lv C va ho d) (fun n s hI => br_t cd_ge (nm_e (h s.1 s.2 hI))) (fun n i s hi J hW => br_f (cd_nge hi) ⟨cd_vi hi, ?_⟩)
    rw [cd_cl (by omega : i < 65536)]
    by_cases c0 : C i = 0
    · have z : cd_h lv (C i) i d = 0 := by
        rw [c0]
        exact cd_hz _ _ _
      refine br_t (cd_qI ((cd_yr lv C d i).trans c0)) (nm_r (nI_1 i) ?_)
      rw [cd_yf z, ← cd_le0 z]
      exact hW s (cd_Ja hd hi hl z (fun q => absurd c0 q) J)
    · have ev : s.2 (i * 256 + d) = cd_h lv (C i) i d := (J.2.2 i d hi hd (Nat.le_refl _)).trans (hh i d hi hd c0)
      refine br_f (cd_qJ (by rw [cd_yr]; exact c0)) ?_
      rw [cd_ix, cd_cl (by omega : i * 256 + d < 65536), cd_v0]
      refine ⟨cd_vh (by omega), ?_⟩
      by_cases z : cd_h lv (C i) i d = 0
      · refine br_t (ev.trans z) (nm_r (nI_1 i) ?_)
        rw [cd_yf z, ← cd_le0 z]
        exact hW s (cd_Ja hd hi hl z (fun q n hn => hh i n hi hn q) J)
      · obtain ⟨a1, a2⟩ := cd_any hd hi (hc i hi) z (fun n hn => hh i n hi hn c0) J
        refine br_f (by rw [ev]; exact z) ⟨cd_vh (by omega), nm_e (cy_any hi (fun all => ?_) (fun ex => ?_))⟩
        · have c1 : C i = 1 := by
            by_cases q : C i = 1
            · exact q
            · obtain ⟨n, hn, g⟩ := a2 q
              exact absurd (all n hn) g
          rw [nI_1, ← cd_le1 z c1, cd_yz z c1]
          exact hW (_, _) (cd_Jb hd z c1 J)
        · have c1 : C i ≠ 1 := by
            intro q
            obtain ⟨n, hn, g⟩ := ex
            exact g (a1 q n hn)
          rw [← cd_le2 z c1, cd_yq z c1]
          exact hW (_, _) (cd_Jc hd hl z (fun n hn => hh i n hi hn c0) J)
  rw [cd_y0] at key
  exact key
theorem cy_keys {post : Int32 → Prop} {d : Nat} (hd : d < 256) (hh : ∀ k n, k < 256 → n < 256 → ¬ C k = 0 → ho (k * 256 + n) = cd_h lv (C k) k n)
    (h : post (nI (cd_t lv C d 256))) : ∃ n, wY_keysAt_23 post (nI d) mn mk rp pe lv (fun j => nI (cd_q (C j))) va ho 65536 n 0 0 := by
  refine cd_lq (fun n i => wY_keysAt_23 post (nI d) mn mk rp pe lv (fun j => nI (cd_q (C j))) va ho 65536 n (nI (cd_t lv C d i)) (nI i)) 256
    (fun n => br_t cd_ge h) (fun n i hi hW => br_f (cd_nge hi) ⟨cd_vi hi, ?_⟩)
  rw [cd_cl (by omega : i < 65536), cd_ix, cd_cl (by omega : i * 256 + d < 65536)]
  by_cases c0 : C i = 0
  · have z : cd_h lv (C i) i d = 0 := by
      rw [c0]
      exact cd_hz _ _ _
    refine br_t (cd_qI c0) (nm_r (nI_1 i) ?_)
    rw [← cd_tf z]
    exact hW
  · have ev := hh i d hi hd c0
    refine br_f (cd_qJ c0) ⟨cd_vh (by omega), ?_⟩
    by_cases z : cd_h lv (C i) i d = 0
    · refine br_t (ev.trans z) (nm_r (nI_1 i) ?_)
      rw [← cd_tf z]
      exact hW
    · refine br_f (by rw [ev]; exact z) (nm_r (nI_1 _) (nm_r (nI_1 i) ?_))
      rw [← cd_tt z]
      exact hW
theorem cy_key {post : Int32 → Prop} {d p : Nat} (hd : d < 256) (hp : p < 2 ^ 31) (hh : ∀ k n, k < 256 → n < 256 → ¬ C k = 0 → ho (k * 256 + n) = cd_h lv (C k) k n)
    (h0 : cd_t lv C d 256 ≤ p → post (-1)) (h1 : ∀ i, i < 256 → ¬ cd_h lv (C i) i d = 0 → cd_t lv C d i = p → post (nI i)) :
    ∃ n, wY_keyAt_30 post (nI d) (nI p) mn mk rp pe lv (fun j => nI (cd_q (C j))) va ho 65536 n 0 0 := by
  refine cd_lp (fun n i => wY_keyAt_30 post (nI d) (nI p) mn mk rp pe lv (fun j => nI (cd_q (C j))) va ho 65536 n (nI (cd_t lv C d i)) (nI i)) (fun i => cd_t lv C d i ≤ p) 256
    (Nat.zero_le _) (fun n h => br_t cd_ge (h0 h)) (fun n i hi hI hW => br_f (cd_nge hi) ⟨cd_vi hi, ?_⟩)
  rw [cd_cl (by omega : i < 65536), cd_ix, cd_cl (by omega : i * 256 + d < 65536)]
  by_cases c0 : C i = 0
  · have z : cd_h lv (C i) i d = 0 := by
      rw [c0]
      exact cd_hz _ _ _
    refine br_t (cd_qI c0) (nm_r (nI_1 i) ?_)
    have e := cd_tf z
    rw [← e]
    exact hW (by omega)
  · have ev := hh i d hi hd c0
    refine br_f (cd_qJ c0) ⟨cd_vh (by omega), ?_⟩
    by_cases z : cd_h lv (C i) i d = 0
    · refine br_t (ev.trans z) (nm_r (nI_1 i) ?_)
      have e := cd_tf z
      rw [← e]
      exact hW (by omega)
    · have cl := cd_tl lv C d i
      refine br_f (by rw [ev]; exact z) (pk_eq (cd_t lv C d i) p (fun q => h1 i hi z q) (fun q => nm_r (nI_1 _) (nm_r (nI_1 i) ?_)))
      have e := cd_tt z
      rw [← e]
      exact hW (by omega)
theorem cy_from {post : Int32 → Prop} {k : Nat} (hk : k < 256) (h0 : cd_c lv k 256 ≤ 0 → post (-1))
    (h1 : ∀ d, d < 256 → ¬ lv ((k + d) % 256) = 0 → cd_c lv k d = 0 → post (nI ((k + d) % 256))) :
    ∃ n, wY_lookup_29 post (nI k) mn mk rp pe lv st va ho 65536 n 0 := by
  refine cd_lp (fun n i => wY_lookup_29 post (nI k) mn mk rp pe lv st va ho 65536 n (nI i)) (fun i => cd_c lv k i ≤ 0) 256
    (Nat.zero_le _) (fun n h => br_t cd_ge (h0 h)) (fun n i hi hI hW => br_f (cd_nge hi) ⟨cd_n256, nm_r (cd_md hk hi) ?_⟩)
  have ml : (k + i) % 256 < 256 := Nat.mod_lt _ (by decide)
  rw [cd_cl (by omega : (k + i) % 256 < 65536)]
  refine ⟨cd_vi ml, ?_⟩
  by_cases z : lv ((k + i) % 256) = 0
  · refine br_t z (nm_r (nI_1 i) (hW ?_))
    have e := cd_cf z
    omega
  · exact br_f z (h1 i hi z (by omega))
theorem cy_holder {post : Int32 → Prop} {k p m : Nat} (hk : k < 256) (hp : p < 2 ^ 31) (hh : ∀ n, n < 256 → ho (k * 256 + n) = cd_h lv m k n)
    (h0 : min (cd_c lv k 256) m ≤ p → post (-1))
    (h1 : ∀ d, d < 256 → ¬ lv ((k + d) % 256) = 0 → cd_c lv k d < m → cd_c lv k d = p → post (nI ((k + d) % 256))) :
    ∃ n, wY_holderAt_28 post (nI k) (nI p) mn mk rp pe lv st va ho 65536 n 0 0 := by
  have key : ∃ n, wY_holderAt_28 post (nI k) (nI p) mn mk rp pe lv st va ho 65536 n (nI (min (cd_c lv k 0) m)) (nI 0) := by
    refine cd_lp (fun n i => wY_holderAt_28 post (nI k) (nI p) mn mk rp pe lv st va ho 65536 n (nI (min (cd_c lv k i) m)) (nI i)) (fun i => min (cd_c lv k i) m ≤ p) 256
      (Nat.le_trans (Nat.min_le_left _ _) (Nat.zero_le _)) (fun n h => br_t cd_ge (h0 h)) (fun n i hi hI hW => br_f (cd_nge hi) ⟨cd_n256, nm_r (cd_md hk hi) ?_⟩)
    have ml : (k + i) % 256 < 256 := Nat.mod_lt _ (by decide)
    have cl := cd_cle lv k i
    have ev := hh ((k + i) % 256) ml
    rw [cd_ix, cd_cl (by omega : k * 256 + (k + i) % 256 < 65536)]
    refine ⟨cd_vh (by omega), ?_⟩
    by_cases z : lv ((k + i) % 256) = 0
    · refine br_t (ev.trans (cd_hd z)) (nm_r (nI_1 i) ?_)
      have e := cd_cf z
      rw [← e]
      exact hW (by rw [e]; exact hI)
    · have e := cd_ct z
      by_cases y : cd_c lv k i < m
      · refine br_f (by rw [ev, cd_hst hk hi z y]; exact cd_one) (pk_eq (min (cd_c lv k i) m) p (fun q => h1 i hi z y (by omega)) (fun q => nm_r (nI_1 _) (nm_r (nI_1 i) ?_)))
        have e2 : min (cd_c lv k i) m + 1 = min (cd_c lv k (i + 1)) m := by omega
        rw [e2]
        exact hW (by omega)
      · refine br_t (ev.trans (cd_hsf hk hi y)) (nm_r (nI_1 i) ?_)
        have e2 : min (cd_c lv k i) m = min (cd_c lv k (i + 1)) m := by omega
        rw [e2]
        exact hW (by omega)
  have e0 : min (cd_c lv k 0) m = 0 := Nat.zero_min m
  rw [e0] at key
  exact key
end
end
section
/-! the relation, and what keeps it -/
/-- both sides share capacities, live nodes, crash counter; C k is the number of holders of key k, 0 where it is not stored; the holders are the first C k live nodes clockwise from k -/
def i_Rel (_ : Nat) (u : SX) (v : SY) : Prop :=
  ∃ (a b c : Nat) (cr : Int32) (lv vx : Nat → Int32) (C : Nat → Nat) (vy ho : Nat → Int32),
    u = (nI a, nI b, nI c, nI (cd_c lv 0 256), nI (cd_n C 256), cr, lv, vx, fun j => nI (C j)) ∧
    v = (nI a, nI b, nI c, cr, lv, (fun j => nI (cd_q (C j))), vy, ho, 65536) ∧
    a < 65536 ∧ b < 65536 ∧ 0 < c ∧ c < 65536 ∧ cd_R c lv vx C vy ho
theorem cd_rg (x : Int32) : (x < 0 ∨ nI 256 ≤ x) ∨ ∃ j : Nat, j < 256 ∧ x = nI j := by
  rcases pk_ix x (n := 256) (by decide) with h | h | h
  · exact Or.inl (Or.inl h)
  · exact Or.inl (Or.inr h)
  · exact Or.inr h
theorem cd_clamp (p : Int32) {lo hi : Int32} {x y : Nat} (hlo : lo = nI x) (hhi : hi = nI y) (hx : 0 < x) (xy : x ≤ y) (hy : y < 65536) :
    ∃ a : Nat, 0 < a ∧ a < 65536 ∧ (∀ post : Int32 → Prop, post (nI a) → wpX_clamp post p lo hi) ∧
      (∀ F : Int32 → Prop, F (nI a) → ((lo ≤ p → ((p ≤ hi → F p) ∧ (¬ p ≤ hi → F hi))) ∧ (¬ lo ≤ p → F lo))) := by
  by_cases h : lo ≤ p
  · by_cases g : p ≤ hi
    · have n0 : ¬ p < 0 := by
        intro w
        rw [hlo, Int32.le_iff_toInt_le, nI_toInt (by omega)] at h
        rw [Int32.lt_iff_toInt_lt, show (0 : Int32).toInt = 0 from by decide] at w
        omega
      obtain ⟨j, hj, rfl⟩ := nI_of n0
      have h2 := h
      have g2 := g
      rw [hlo, nI_leI (by omega) hj] at h2
      rw [hhi, nI_leI hj (by omega)] at g2
      exact ⟨j, by omega, by omega, fun post f => br_t h (br_t g f), fun F f => br_t h (br_t g f)⟩
    · exact ⟨y, by omega, by omega, fun post f => br_t h (br_f g (by rw [hhi]; exact f)), fun F f => br_t h (br_f g (by rw [hhi]; exact f))⟩
  · exact ⟨x, by omega, by omega, fun post f => br_f h (by rw [hlo]; exact f), fun F f => br_f h (by rw [hlo]; exact f)⟩
theorem cd_c0 (k : Nat) : ∀ d, cd_c (fun _ => 0) k d = 0 := by
  intro d
  induction d with
  | zero => rfl
  | succ d ih =>
    rw [cd_cf rfl]
    exact ih
section
variable {k a b c : Nat} {cr : Int32} {lv vx : Nat → Int32} {C : Nat → Nat} {vy ho : Nat → Int32}
theorem cr_C (R : cd_R c lv vx C vy ho) : ∀ j, j < 256 → C j < 65536 := by
  intro j hj
  have a := R.1 j hj
  have b := cd_cle lv 0 256
  omega
theorem cr_rep (ha : a < 65536) (hb : b < 65536) (hc0 : 0 < c) (hc : c < 65536) (hl : ¬ cd_c lv 0 256 = 0) (hv : ∀ j, j < 256 → ¬ C j = 0 → vy j = vx j) :
    i_Rel k (nI a, nI b, nI c, nI (cd_c lv 0 256), nI (cd_n C 256), 0, lv, vx, fun j => nI (cd_x C (min c (cd_c lv 0 256)) 256 j))
      (nI a, nI b, nI c, 0, lv, (fun j => nI (cd_q (C j))), vy, cd_rp lv c C ho 256, 65536) := by
  have hm : ¬ min c (cd_c lv 0 256) = 0 := by omega
  have e : (fun j => nI (cd_q (C j))) = fun j => nI (cd_q (cd_x C (min c (cd_c lv 0 256)) 256 j)) := by
    funext j
    rw [cd_xq C 256 hm]
  refine ⟨a, b, c, 0, lv, vx, cd_x C (min c (cd_c lv 0 256)) 256, vy, cd_rp lv c C ho 256, ?_, ?_, ha, hb, hc0, hc, cd_Rrep hv⟩
  · rw [cd_xn C hm]
  · rw [e]
theorem cr_rep0 {vy' ho' : Nat → Int32} (ha : a < 65536) (hb : b < 65536) (hc0 : 0 < c) (hc : c < 65536) (hl : cd_c lv 0 256 = 0) :
    i_Rel k (nI a, nI b, nI c, nI (cd_c lv 0 256), 0, 0, lv, vx, fun j => nI (cd_x C (min c (cd_c lv 0 256)) 256 j))
      (nI a, nI b, nI c, 0, lv, (fun j => nI (cd_q (cd_x C 0 256 j))), vy', ho', 65536) := by
  have hm : min c (cd_c lv 0 256) = 0 := by omega
  refine ⟨a, b, c, 0, lv, vx, cd_x C 0 256, vy', ho', ?_, rfl, ha, hb, hc0, hc, cd_Rz cd_xnz⟩
  rw [hm, cd_nz (C := cd_x C 0 256) cd_xnz]
  rfl
theorem cr_put {j : Nat} {x : Int32} (hj : j < 256) (ha : a < 65536) (hb : b < 65536) (hc0 : 0 < c) (hc : c < 65536) (hl : ¬ cd_c lv 0 256 = 0) (R : cd_R c lv vx C vy ho) :
    i_Rel k (nI a, nI b, nI c, nI (cd_c lv 0 256), nI (cd_n (cd_u C j (min c (cd_c lv 0 256))) 256), cr, lv, upd vx j x, upd (fun i => nI (C i)) j (nI (min c (cd_c lv 0 256))))
      (nI a, nI b, nI c, cr, lv, upd (fun i => nI (cd_q (C i))) j 1, upd vy j x, cd_st lv c j ho, 65536) := by
  have hm : ¬ min c (cd_c lv 0 256) = 0 := by omega
  have e : upd (fun i => nI (cd_q (C i))) j 1 = fun i => nI (cd_q (cd_u C j (min c (cd_c lv 0 256)) i)) := by
    rw [← cd_uQ C j, cd_q1 hm]
    rfl
  refine ⟨a, b, c, cr, lv, upd vx j x, cd_u C j (min c (cd_c lv 0 256)), upd vy j x, cd_st lv c j ho, ?_, ?_, ha, hb, hc0, hc, ?_⟩
  · rw [cd_uI]
  · rw [e]
  · refine ⟨fun i hi => ?_, fun i hi z => ?_, fun i n hi hn z => ?_⟩
    · by_cases q : i = j
      · rw [q, cd_us]
        exact Nat.le_refl _
      · rw [cd_un q]
        exact R.1 i hi
    · by_cases q : i = j
      · rw [q, pk_us, pk_us]
      · rw [cd_un q] at z
        rw [pk_un q, pk_un q]
        exact R.2.1 i hi z
    · by_cases q : i = j
      · subst q
        rw [cd_us, cd_stb hn, cd_hm hi hn]
      · rw [cd_un q] at z ⊢
        rw [cd_sto hn q]
        exact R.2.2 i n hi hn z
theorem cr_rem {j : Nat} (hj : j < 256) (ha : a < 65536) (hb : b < 65536) (hc0 : 0 < c) (hc : c < 65536) (hC : ¬ C j = 0) (R : cd_R c lv vx C vy ho) :
    i_Rel k (nI a, nI b, nI c, nI (cd_c lv 0 256), nI (cd_n C 256) - 1, cr, lv, vx, upd (fun i => nI (C i)) j 0)
      (nI a, nI b, nI c, cr, lv, upd (fun i => nI (cd_q (C i))) j 0, upd vy j 0, cd_dk j ho, 65536) := by
  have e : upd (fun i => nI (cd_q (C i))) j 0 = fun i => nI (cd_q (cd_u C j 0 i)) := cd_uQ C j 0
  have e1 : upd (fun i => nI (C i)) j 0 = fun i => nI (cd_u C j 0 i) := cd_uI C j 0
  have nu := cd_nu (C := C) (k := j) (x := 0) hj
  have q0 : cd_q 0 = 0 := rfl
  have q1 := cd_q1 hC
  have e2 : nI (cd_n C 256) - 1 = nI (cd_n (cd_u C j 0) 256) := by
    rw [cd_p1 (by omega)]
    exact congrArg nI (by omega)
  refine ⟨a, b, c, cr, lv, vx, cd_u C j 0, upd vy j 0, cd_dk j ho, ?_, ?_, ha, hb, hc0, hc, ?_⟩
  · rw [e1, e2]
  · rw [e]
  · have ne : ∀ i, ¬ cd_u C j 0 i = 0 → i ≠ j := by
      intro i z q
      rw [q, cd_us] at z
      exact z rfl
    refine ⟨fun i hi => ?_, fun i hi z => ?_, fun i n hi hn z => ?_⟩
    · by_cases q : i = j
      · rw [q, cd_us]
        exact Nat.zero_le _
      · rw [cd_un q]
        exact R.1 i hi
    · have q := ne i z
      rw [cd_un q] at z
      rw [pk_un q]
      exact R.2.1 i hi z
    · have q := ne i z
      rw [cd_un q] at z ⊢
      rw [cd_dko hn q]
      exact R.2.2 i n hi hn z
theorem cr_crash {d : Nat} {vy' ho' : Nat → Int32} (hd : d < 256) (hl : ¬ lv d = 0) (ha : a < 65536) (hb : b < 65536) (hc0 : 0 < c) (hc : c < 65536) (R : cd_R c lv vx C vy ho) (J : cd_J lv C vy ho d 256 vy' ho') :
    i_Rel k (nI a, nI b, nI c, nI (cd_c lv 0 256) - 1, nI (cd_n C 256) - nI (cd_l lv C d 256), cr, upd lv d 0, vx, fun j => nI (cd_y lv C d 256 j))
      (nI a, nI b, nI c, cr, upd lv d 0, (fun j => nI (cd_q (cd_y lv C d 256 j))), vy', ho', 65536) := by
  have e1 := cd_rmN hd hl
  have e2 := cd_ln lv C d
  refine ⟨a, b, c, cr, upd lv d 0, vx, cd_y lv C d 256, vy', ho', ?_, rfl, ha, hb, hc0, hc, cd_Rcr hd hl R J⟩
  rw [cd_p1 (by omega), pk_sub (by omega), e1, e2, Nat.add_sub_cancel, Nat.add_sub_cancel]
theorem cr_created (R : cd_R c lv vx C vy ho) : cd_s (cd_z lv c C ho) 256 = cd_s (cd_g C (min c (cd_c lv 0 256))) 256 := by
  apply cd_sc
  intro k hk
  by_cases z : C k = 0
  · rw [cd_z0 z, cd_g0 z]
  · rw [cd_z1 z, cd_g1 z]
    exact cd_rw hk (R.1 k hk) (fun n hn => R.2.2 k n hk hn z)
theorem cr_none (R : cd_R c lv vx C vy ho) (hl : cd_c lv 0 256 = 0) : cd_s (cd_g C (min c (cd_c lv 0 256))) 256 = 0 := by
  apply cd_s0
  intro k hk
  have a := R.1 k hk
  exact cd_g0 (by omega)
theorem cd_tuniq {d i j : Nat} (h : ¬ cd_h lv (C i) i d = 0) (g : ¬ cd_h lv (C j) j d = 0) (e : cd_t lv C d i = cd_t lv C d j) : i = j := by
  have a := cd_tt h
  have b := cd_tt g
  rcases Nat.lt_trichotomy i j with q | q | q
  · have m : cd_t lv C d (i + 1) ≤ cd_t lv C d j := cd_smono j (i + 1) q
    omega
  · exact q
  · have m : cd_t lv C d (j + 1) ≤ cd_t lv C d i := cd_smono i (j + 1) q
    omega
theorem cd_tlt {d i : Nat} (hi : i < 256) (h : ¬ cd_h lv (C i) i d = 0) : cd_t lv C d i < cd_t lv C d 256 := by
  have a := cd_tt h
  have m : cd_t lv C d (i + 1) ≤ cd_t lv C d 256 := cd_smono 256 (i + 1) hi
  omega
theorem cy_keysAt {mn mk rp pe : Int32} {va : Nat → Int32} {post : Int32 → Prop} {d : Nat} (hd : d < 256) (hh : ∀ k n, k < 256 → n < 256 → ¬ C k = 0 → ho (k * 256 + n) = cd_h lv (C k) k n)
    (h : post (nI (cd_t lv C d 256))) : wpY_keysAt post (mn, mk, rp, pe, lv, (fun j => nI (cd_q (C j))), va, ho, 65536) (nI d) := by
  unfold wpY_keysAt
  dsimp only
  refine cy_in hd (br_f cd_one ?_)
  rw [cd_cl (by omega : d < 65536)]
  refine ⟨cd_vi hd, br_c (fun z => ?_) (fun z => cy_keys hd hh h)⟩
  rw [cd_tz z] at h
  exact h
end
end
section
/-! what is owed -/
theorem i_up {k : Nat} {u : SX} {v : SY} (h : i_Rel k u v) : i_Rel (k + 3) u v := h
theorem i_vc0 (k0 : Int32) (k1 : Int32) (k2 : Int32) : wpX_init (fun u => wpY_init (fun v => i_Rel 3 u v) k0 k1 k2) k0 k1 k2 := by
  obtain ⟨a, a0, a1, aX, aY⟩ := cd_clamp k0 (lo := 8) (hi := 32) (x := 8) (y := 32) rfl rfl (by decide) (by decide) (by decide)
  obtain ⟨b, b0, b1, bX, bY⟩ := cd_clamp k1 (lo := 8) (hi := 32) (x := 8) (y := 32) rfl rfl (by decide) (by decide) (by decide)
  obtain ⟨c, c0, c1, cX, cY⟩ := cd_clamp k2 (lo := 1) (hi := 3) (x := 1) (y := 3) rfl rfl (by decide) (by decide) (by decide)
  unfold wpX_init wpY_init
  refine aX _ (bX _ (cX _ ?_))
  refine ⟨by decide, nm_r (e' := 65536) (by decide) ⟨Nat.le_refl _, ?_⟩⟩
  refine aY (fun z => wY_init_63 (fun v => i_Rel 3 (nI a, nI b, nI c, 0, 0, 0, (fun _ => 0), (fun _ => 0), (fun _ => 0)) v) k1 k2 z 0 0 0 0 (fun _ => 0) (fun _ => 0) (fun _ => 0) (fun _ => 0) 65536) ?_
  refine bY (fun z => wY_init_90 (fun v => i_Rel 3 (nI a, nI b, nI c, 0, 0, 0, (fun _ => 0), (fun _ => 0), (fun _ => 0)) v) k2 z (nI a) 0 0 0 (fun _ => 0) (fun _ => 0) (fun _ => 0) (fun _ => 0) 65536) ?_
  refine cY (fun z => i_Rel 3 (nI a, nI b, nI c, 0, 0, 0, (fun _ => 0), (fun _ => 0), (fun _ => 0)) (nI a, nI b, z, 0, (fun _ => 0), (fun _ => 0), (fun _ => 0), (fun _ => 0), 65536)) ?_
  refine ⟨a, b, c, 0, fun _ => 0, fun _ => 0, fun _ => 0, fun _ => 0, fun _ => 0, ?_, rfl, a1, b1, c0, c1, cd_Rz (fun _ _ => rfl)⟩
  rw [cd_c0, cd_nz (C := fun _ => 0) (fun _ _ => rfl)]
  rfl
theorem i_vc_join {k : Nat} {u : SX} {v : SY} (I : i_Rel k u v) (hk : k + 3 ≤ 1539) (v1 : Int32) : wpX_join (fun r u' => wpY_join (fun r' v' => r' = r ∧ i_Rel (k + 3) u' v') v v1) u v1 := by
  obtain ⟨a, b, c, cr, lv, vx, C, vy, ho, rfl, rfl, ha, hb, hc0, hc, R⟩ := I
  have rel : i_Rel (k + 3) (nI a, nI b, nI c, nI (cd_c lv 0 256), nI (cd_n C 256), cr, lv, vx, fun j => nI (C j)) (nI a, nI b, nI c, cr, lv, (fun j => nI (cd_q (C j))), vy, ho, 65536) :=
    ⟨a, b, c, cr, lv, vx, C, vy, ho, rfl, rfl, ha, hb, hc0, hc, R⟩
  have cl := cd_cle lv 0 256
  have hC := cr_C R
  unfold wpX_join wpY_join
  dsimp only
  rcases cd_rg v1 with hx | ⟨j, hj, rfl⟩
  · exact cx_out hx (br_t rfl (cy_out hx (br_t rfl ⟨rfl, rel⟩)))
  · refine cx_in hj (br_f cd_one ?_)
    rw [cd_cl (by omega : j < 65536), cd_v1]
    refine ⟨cd_vi hj, ?_⟩
    by_cases z : lv j = 0
    · have e := cd_addN hj z
      have cl2 := cd_cle (upd lv j 1) 0 256
      refine br_t z (pk_eq (cd_c lv 0 256) a (fun q => ?_) (fun q => ?_))
      · exact cy_in hj (br_f cd_one ⟨cd_vi hj, br_t z (cy_count (br_t (congrArg nI q) ⟨rfl, rel⟩))⟩)
      · refine ⟨cd_vi hj, nm_e (nm_r (e' := nI (cd_c (upd lv j 1) 0 256)) (by rw [nI_1, e]) (cx_repair hc (by omega) hC (fun w => absurd w (by omega)) (fun w => ?_)))⟩
        refine cy_in hj (br_f cd_one ⟨cd_vi hj, br_t z (cy_count (br_f (fun y => q ((nI_eq (by omega) (by omega)).mp y)) ⟨cd_vi hj, nm_e (cy_repair hc (fun y => absurd y w) (fun _ => ?_))⟩))⟩)
        exact ⟨rfl, cr_rep ha hb hc0 hc w R.2.1⟩
    · exact br_f z (cy_in hj (br_f cd_one ⟨cd_vi hj, br_f z ⟨rfl, rel⟩⟩))
theorem i_vc_leave {k : Nat} {u : SX} {v : SY} (I : i_Rel k u v) (hk : k + 3 ≤ 1539) (v1 : Int32) : wpX_leave (fun r u' => wpY_leave (fun r' v' => r' = r ∧ i_Rel (k + 3) u' v') v v1) u v1 := by
  obtain ⟨a, b, c, cr, lv, vx, C, vy, ho, rfl, rfl, ha, hb, hc0, hc, R⟩ := I
  have rel : i_Rel (k + 3) (nI a, nI b, nI c, nI (cd_c lv 0 256), nI (cd_n C 256), cr, lv, vx, fun j => nI (C j)) (nI a, nI b, nI c, cr, lv, (fun j => nI (cd_q (C j))), vy, ho, 65536) :=
    ⟨a, b, c, cr, lv, vx, C, vy, ho, rfl, rfl, ha, hb, hc0, hc, R⟩
  have cl := cd_cle lv 0 256
  have hC := cr_C R
  unfold wpX_leave wpY_leave
  dsimp only
  rcases cd_rg v1 with hx | ⟨j, hj, rfl⟩
  · exact cx_out hx (br_t rfl (cy_out hx (br_t rfl ⟨rfl, rel⟩)))
  · refine cx_in hj (br_f cd_one ?_)
    rw [cd_cl (by omega : j < 65536), cd_v0]
    refine ⟨cd_vi hj, ?_⟩
    by_cases z : lv j = 0
    · exact br_t z (cy_in hj (br_f cd_one ⟨cd_vi hj, br_t z ⟨rfl, rel⟩⟩))
    · have e := cd_rmN hj z
      have cl2 := cd_cle (upd lv j 0) 0 256
      refine br_f z ⟨cd_vi hj, nm_e (nm_r (e' := nI (cd_c (upd lv j 0) 0 256)) (by rw [cd_p1 (by omega), e, Nat.add_sub_cancel]) (cx_repair hc (by omega) hC (fun w => ?_) (fun w => ?_)))⟩
      · refine cy_in hj (br_f cd_one ⟨cd_vi hj, br_f z ⟨cd_vi hj, nm_e (cy_repair hc (fun y va' ho' => ?_) (fun y => absurd w y))⟩⟩)
        exact ⟨rfl, cr_rep0 ha hb hc0 hc w⟩
      · refine cy_in hj (br_f cd_one ⟨cd_vi hj, br_f z ⟨cd_vi hj, nm_e (cy_repair hc (fun y => absurd y w) (fun y => ?_))⟩⟩)
        exact ⟨rfl, cr_rep ha hb hc0 hc w R.2.1⟩
theorem i_vc_crash {k : Nat} {u : SX} {v : SY} (I : i_Rel k u v) (hk : k + 3 ≤ 1539) (v1 : Int32) : wpX_crash (fun r u' => wpY_crash (fun r' v' => r' = r ∧ i_Rel (k + 3) u' v') v v1) u v1 := by
  obtain ⟨a, b, c, cr, lv, vx, C, vy, ho, rfl, rfl, ha, hb, hc0, hc, R⟩ := I
  have rel : i_Rel (k + 3) (nI a, nI b, nI c, nI (cd_c lv 0 256), nI (cd_n C 256), cr, lv, vx, fun j => nI (C j)) (nI a, nI b, nI c, cr, lv, (fun j => nI (cd_q (C j))), vy, ho, 65536) :=
    ⟨a, b, c, cr, lv, vx, C, vy, ho, rfl, rfl, ha, hb, hc0, hc, R⟩
  have cl := cd_cle lv 0 256
  have hC := cr_C R
  unfold wpX_crash wpY_crash
  dsimp only
  rcases cd_rg v1 with hx | ⟨j, hj, rfl⟩
  · exact cx_out hx (br_t rfl (cy_out hx (br_t rfl ⟨rfl, rel⟩)))
  · refine cx_in hj (br_f cd_one ?_)
    rw [cd_cl (by omega : j < 65536), cd_v0]
    refine ⟨cd_vi hj, ?_⟩
    by_cases z : lv j = 0
    · exact br_t z (cy_in hj (br_f cd_one ⟨cd_vi hj, br_t z ⟨rfl, rel⟩⟩))
    · refine br_f z (cx_drop hj hC ⟨cd_vi hj, nm_e (nm_e (nm_e (nm_e ?_)))⟩)
      refine cy_in hj (br_f cd_one ⟨cd_vi hj, br_f z ⟨cd_vi hj, nm_e (cy_crash hj z (fun i hi => Nat.le_trans (R.1 i hi) (Nat.min_le_right _ _)) R.2.2 (fun va' ho' J => ?_))⟩⟩)
      exact ⟨rfl, cr_crash hj z ha hb hc0 hc R J⟩
theorem i_vc_stabilise {k : Nat} {u : SX} {v : SY} (I : i_Rel k u v) (hk : k + 3 ≤ 1539) : wpX_stabilise (fun r u' => wpY_stabilise (fun r' v' => r' = r ∧ i_Rel (k + 3) u' v') v) u := by
  obtain ⟨a, b, c, cr, lv, vx, C, vy, ho, rfl, rfl, ha, hb, hc0, hc, R⟩ := I
  have rel : i_Rel (k + 3) (nI a, nI b, nI c, nI (cd_c lv 0 256), nI (cd_n C 256), cr, lv, vx, fun j => nI (C j)) (nI a, nI b, nI c, cr, lv, (fun j => nI (cd_q (C j))), vy, ho, 65536) :=
    ⟨a, b, c, cr, lv, vx, C, vy, ho, rfl, rfl, ha, hb, hc0, hc, R⟩
  have cl := cd_cle lv 0 256
  have hC := cr_C R
  unfold wpX_stabilise wpY_stabilise
  dsimp only
  refine cx_missing hc (by omega) R.1 (cx_repair hc (by omega) hC (fun w => ?_) (fun w => ?_))
  · refine cy_repair hc (fun y va' ho' => ⟨?_, cr_rep0 ha hb hc0 hc w⟩) (fun y => absurd w y)
    rw [cr_none R w]
    rfl
  · refine cy_repair hc (fun y => absurd y w) (fun y => ⟨?_, cr_rep ha hb hc0 hc w R.2.1⟩)
    rw [cr_created R]
theorem i_vc_put {k : Nat} {u : SX} {v : SY} (I : i_Rel k u v) (hk : k + 3 ≤ 1539) (v1 : Int32) (v2 : Int32) : wpX_put (fun r u' => wpY_put (fun r' v' => r' = r ∧ i_Rel (k + 3) u' v') v v1 v2) u v1 v2 := by
  obtain ⟨a, b, c, cr, lv, vx, C, vy, ho, rfl, rfl, ha, hb, hc0, hc, R⟩ := I
  have rel : i_Rel (k + 3) (nI a, nI b, nI c, nI (cd_c lv 0 256), nI (cd_n C 256), cr, lv, vx, fun j => nI (C j)) (nI a, nI b, nI c, cr, lv, (fun j => nI (cd_q (C j))), vy, ho, 65536) :=
    ⟨a, b, c, cr, lv, vx, C, vy, ho, rfl, rfl, ha, hb, hc0, hc, R⟩
  have cl := cd_cle lv 0 256
  have hC := cr_C R
  have nl := cd_nl C 256
  unfold wpX_put wpY_put
  dsimp only
  rcases cd_rg v1 with hx | ⟨j, hj, rfl⟩
  · exact cx_out hx (br_t rfl (cy_out hx (br_t rfl ⟨rfl, rel⟩)))
  · refine cx_in hj (br_f cd_one ?_)
    rw [cd_cl (by omega : j < 65536)]
    refine pk_eq (cd_c lv 0 256) 0 (fun w => ?_) (fun w => ?_)
    · exact cy_in hj (br_f cd_one (cy_count (br_t (congrArg nI w) ⟨rfl, rel⟩)))
    · have w2 : ¬ nI (cd_c lv 0 256) = 0 := nI_ne0 (by omega) (by omega)
      have nu := cd_nu (C := C) (k := j) (x := min c (cd_c lv 0 256)) hj
      have qm := cd_q1 (by omega : ¬ min c (cd_c lv 0 256) = 0)
      refine cx_isStored hj (hC j hj) (fun z => ?_) (fun z => ?_)
      · refine br_t rfl (pk_eq (cd_n C 256) b (fun q => ?_) (fun q => ?_))
        · exact cy_in hj (br_f cd_one (cy_count (br_f w2 ⟨cd_vi hj, br_t (cd_qI z) (cy_keyCount (br_t (congrArg nI q) ⟨rfl, rel⟩))⟩)))
        · have e : nI (cd_n C 256) + 1 = nI (cd_n (cd_u C j (min c (cd_c lv 0 256))) 256) := by
            have q0 := cd_q0 z
            rw [nI_1]
            exact congrArg nI (by omega)
          refine nm_r e (by
            unfold wX_put_51
            rw [cd_cl (by omega : j < 65536)]
            refine ⟨cd_vi hj, nm_e (cx_full hc (by omega) ⟨cd_vi hj, nm_e ?_⟩)⟩
            refine cy_in hj (br_f cd_one (cy_count (br_f w2 ⟨cd_vi hj, br_t (cd_qI z) (cy_keyCount (br_f (fun y => q ((nI_eq (by omega) (by omega)).mp y)) ?_))⟩)))
            unfold wY_put_43
            rw [cd_cl (by omega : j < 65536), cd_v1]
            refine ⟨cd_vi hj, nm_e ⟨cd_vi hj, nm_e (cy_setTop hj hc ?_)⟩⟩
            exact ⟨rfl, cr_put hj ha hb hc0 hc w R⟩)
      · have e : nI (cd_n C 256) = nI (cd_n (cd_u C j (min c (cd_c lv 0 256))) 256) := by
          have q0 := cd_q1 z
          exact congrArg nI (by omega)
        refine br_f cd_one ?_
        unfold wX_put_51
        rw [cd_cl (by omega : j < 65536)]
        refine ⟨cd_vi hj, nm_e (cx_full hc (by omega) ⟨cd_vi hj, nm_e ?_⟩)⟩
        refine cy_in hj (br_f cd_one (cy_count (br_f w2 ⟨cd_vi hj, br_f (cd_qJ z) ?_⟩)))
        unfold wY_put_43
        rw [cd_cl (by omega : j < 65536), cd_v1]
        refine ⟨cd_vi hj, nm_e ⟨cd_vi hj, nm_e (cy_setTop hj hc ?_)⟩⟩
        refine ⟨rfl, ?_⟩
        rw [e]
        exact cr_put hj ha hb hc0 hc w R
theorem i_vc_remove {k : Nat} {u : SX} {v : SY} (I : i_Rel k u v) (hk : k + 3 ≤ 1539) (v1 : Int32) : wpX_remove (fun r u' => wpY_remove (fun r' v' => r' = r ∧ i_Rel (k + 3) u' v') v v1) u v1 := by
  obtain ⟨a, b, c, cr, lv, vx, C, vy, ho, rfl, rfl, ha, hb, hc0, hc, R⟩ := I
  have rel : i_Rel (k + 3) (nI a, nI b, nI c, nI (cd_c lv 0 256), nI (cd_n C 256), cr, lv, vx, fun j => nI (C j)) (nI a, nI b, nI c, cr, lv, (fun j => nI (cd_q (C j))), vy, ho, 65536) :=
    ⟨a, b, c, cr, lv, vx, C, vy, ho, rfl, rfl, ha, hb, hc0, hc, R⟩
  have cl := cd_cle lv 0 256
  have hC := cr_C R
  unfold wpX_remove wpY_remove
  dsimp only
  rcases cd_rg v1 with hx | ⟨j, hj, rfl⟩
  · exact cx_out hx (br_t rfl (cy_out hx (br_t rfl ⟨rfl, rel⟩)))
  · refine cx_in hj (br_f cd_one (cx_isStored hj (hC j hj) (fun z => ?_) (fun z => ?_)))
    · rw [cd_cl (by omega : j < 65536)]
      exact br_t rfl (cy_in hj (br_f cd_one ⟨cd_vi hj, br_t (cd_qI z) ⟨rfl, rel⟩⟩))
    · rw [cd_cl (by omega : j < 65536)]
      refine br_f cd_one ⟨cd_vi hj, nm_e (nm_e ?_)⟩
      refine cy_in hj (br_f cd_one ⟨cd_vi hj, br_f (cd_qJ z) (cy_dropKey hj ?_)⟩)
      exact ⟨rfl, cr_rem hj ha hb hc0 hc z R⟩
theorem i_vc_isLive {k : Nat} {u : SX} {v : SY} (I : i_Rel k u v) (hk : k + 3 ≤ 1539) (v1 : Int32) : wpX_isLive (fun r => wpY_isLive (fun r' => r' = r ∧ i_Rel (k + 3) u v) v v1) u v1 := by
  obtain ⟨a, b, c, cr, lv, vx, C, vy, ho, rfl, rfl, ha, hb, hc0, hc, R⟩ := I
  have rel : i_Rel (k + 3) (nI a, nI b, nI c, nI (cd_c lv 0 256), nI (cd_n C 256), cr, lv, vx, fun j => nI (C j)) (nI a, nI b, nI c, cr, lv, (fun j => nI (cd_q (C j))), vy, ho, 65536) :=
    ⟨a, b, c, cr, lv, vx, C, vy, ho, rfl, rfl, ha, hb, hc0, hc, R⟩
  have cl := cd_cle lv 0 256
  have hC := cr_C R
  unfold wpX_isLive wpY_isLive
  dsimp only
  rcases cd_rg v1 with hx | ⟨j, hj, rfl⟩
  · exact cx_out hx (br_t rfl (cy_out hx (br_t rfl ⟨rfl, rel⟩)))
  · refine cx_in hj (br_f cd_one ?_)
    rw [cd_cl (by omega : j < 65536)]
    refine ⟨cd_vi hj, ?_⟩
    by_cases z : lv j = 0
    · exact br_t z (cy_in hj (br_f cd_one ⟨cd_vi hj, br_t z ⟨rfl, rel⟩⟩))
    · exact br_f z (cy_in hj (br_f cd_one ⟨cd_vi hj, br_f z ⟨rfl, rel⟩⟩))
theorem i_vc_nodeCount {k : Nat} {u : SX} {v : SY} (I : i_Rel k u v) (hk : k + 3 ≤ 1539) : wpX_nodeCount (fun r => wpY_nodeCount (fun r' => r' = r ∧ i_Rel (k + 3) u v) v) u := by
  obtain ⟨a, b, c, cr, lv, vx, C, vy, ho, rfl, rfl, ha, hb, hc0, hc, R⟩ := I
  have rel : i_Rel (k + 3) (nI a, nI b, nI c, nI (cd_c lv 0 256), nI (cd_n C 256), cr, lv, vx, fun j => nI (C j)) (nI a, nI b, nI c, cr, lv, (fun j => nI (cd_q (C j))), vy, ho, 65536) :=
    ⟨a, b, c, cr, lv, vx, C, vy, ho, rfl, rfl, ha, hb, hc0, hc, R⟩
  have cl := cd_cle lv 0 256
  have hC := cr_C R
  unfold wpX_nodeCount wpY_nodeCount
  dsimp only
  exact cy_count ⟨rfl, rel⟩
theorem i_vc_keyCount {k : Nat} {u : SX} {v : SY} (I : i_Rel k u v) (hk : k + 3 ≤ 1539) : wpX_keyCount (fun r => wpY_keyCount (fun r' => r' = r ∧ i_Rel (k + 3) u v) v) u := by
  obtain ⟨a, b, c, cr, lv, vx, C, vy, ho, rfl, rfl, ha, hb, hc0, hc, R⟩ := I
  have rel : i_Rel (k + 3) (nI a, nI b, nI c, nI (cd_c lv 0 256), nI (cd_n C 256), cr, lv, vx, fun j => nI (C j)) (nI a, nI b, nI c, cr, lv, (fun j => nI (cd_q (C j))), vy, ho, 65536) :=
    ⟨a, b, c, cr, lv, vx, C, vy, ho, rfl, rfl, ha, hb, hc0, hc, R⟩
  have cl := cd_cle lv 0 256
  have hC := cr_C R
  unfold wpX_keyCount
  dsimp only
  exact cy_keyCount ⟨rfl, rel⟩
theorem i_vc_pendingCrashes {k : Nat} {u : SX} {v : SY} (I : i_Rel k u v) (hk : k + 3 ≤ 1539) : wpX_pendingCrashes (fun r => wpY_pendingCrashes (fun r' => r' = r ∧ i_Rel (k + 3) u v) v) u := by
  obtain ⟨a, b, c, cr, lv, vx, C, vy, ho, rfl, rfl, ha, hb, hc0, hc, R⟩ := I
  have rel : i_Rel (k + 3) (nI a, nI b, nI c, nI (cd_c lv 0 256), nI (cd_n C 256), cr, lv, vx, fun j => nI (C j)) (nI a, nI b, nI c, cr, lv, (fun j => nI (cd_q (C j))), vy, ho, 65536) :=
    ⟨a, b, c, cr, lv, vx, C, vy, ho, rfl, rfl, ha, hb, hc0, hc, R⟩
  have cl := cd_cle lv 0 256
  have hC := cr_C R
  unfold wpX_pendingCrashes wpY_pendingCrashes
  dsimp only
  exact ⟨rfl, rel⟩
theorem i_vc_lookup {k : Nat} {u : SX} {v : SY} (I : i_Rel k u v) (hk : k + 3 ≤ 1539) (v1 : Int32) (v2 : Int32) : wpX_lookup (fun r => wpY_lookup (fun r' => r' = r ∧ i_Rel (k + 3) u v) v v1 v2) u v1 v2 := by
  obtain ⟨a, b, c, cr, lv, vx, C, vy, ho, rfl, rfl, ha, hb, hc0, hc, R⟩ := I
  have rel : i_Rel (k + 3) (nI a, nI b, nI c, nI (cd_c lv 0 256), nI (cd_n C 256), cr, lv, vx, fun j => nI (C j)) (nI a, nI b, nI c, cr, lv, (fun j => nI (cd_q (C j))), vy, ho, 65536) :=
    ⟨a, b, c, cr, lv, vx, C, vy, ho, rfl, rfl, ha, hb, hc0, hc, R⟩
  have cl := cd_cle lv 0 256
  have hC := cr_C R
  unfold wpX_lookup wpY_lookup
  dsimp only
  rcases cd_rg v1 with hx | ⟨j, hj, rfl⟩
  · exact cx_out hx (br_t rfl (cy_out hx (br_t rfl ⟨rfl, rel⟩)))
  · refine cx_in hj (br_f cd_one ?_)
    rw [cd_cl (by omega : j < 65536)]
    refine ⟨cd_vi hj, ?_⟩
    by_cases z : lv j = 0
    · exact br_t z (cy_in hj (br_f cd_one ⟨cd_vi hj, br_t z ⟨rfl, rel⟩⟩))
    · refine br_f z ?_
      rcases cd_rg v2 with hx | ⟨i, hi, rfl⟩
      · exact cx_out hx (br_t rfl (cy_in hj (br_f cd_one ⟨cd_vi hj, br_f z (cy_out hx (br_t rfl ⟨rfl, rel⟩))⟩)))
      · refine cx_in hi (br_f cd_one (cx_from (p := 0) hi (by decide) (fun w => ?_) (fun d hd l e => ?_)))
        · refine cy_in hj (br_f cd_one ⟨cd_vi hj, br_f z (cy_in hi (br_f cd_one (cy_from hi (fun _ => ⟨rfl, rel⟩) (fun d hd l e => ?_))))⟩)
          have q := cd_lt l hd
          omega
        · refine cy_in hj (br_f cd_one ⟨cd_vi hj, br_f z (cy_in hi (br_f cd_one (cy_from hi (fun w => ?_) (fun d' hd' l' e' => ?_))))⟩)
          · have q := cd_lt l hd
            omega
          · have q := cd_uniq l l' (e.trans e'.symm)
            subst q
            exact ⟨rfl, rel⟩
theorem i_vc_valueOf {k : Nat} {u : SX} {v : SY} (I : i_Rel k u v) (hk : k + 3 ≤ 1539) (v1 : Int32) : wpX_valueOf (fun r => wpY_valueOf (fun r' => r' = r ∧ i_Rel (k + 3) u v) v v1) u v1 := by
  obtain ⟨a, b, c, cr, lv, vx, C, vy, ho, rfl, rfl, ha, hb, hc0, hc, R⟩ := I
  have rel : i_Rel (k + 3) (nI a, nI b, nI c, nI (cd_c lv 0 256), nI (cd_n C 256), cr, lv, vx, fun j => nI (C j)) (nI a, nI b, nI c, cr, lv, (fun j => nI (cd_q (C j))), vy, ho, 65536) :=
    ⟨a, b, c, cr, lv, vx, C, vy, ho, rfl, rfl, ha, hb, hc0, hc, R⟩
  have cl := cd_cle lv 0 256
  have hC := cr_C R
  unfold wpX_valueOf wpY_valueOf
  dsimp only
  rcases cd_rg v1 with hx | ⟨j, hj, rfl⟩
  · exact cx_out hx (br_t rfl (cy_out hx (br_t rfl ⟨rfl, rel⟩)))
  · refine cx_in hj (br_f cd_one (cx_isStored hj (hC j hj) (fun z => ?_) (fun z => ?_)))
    · rw [cd_cl (by omega : j < 65536)]
      exact br_t rfl (cy_in hj (br_f cd_one ⟨cd_vi hj, br_t (cd_qI z) ⟨rfl, rel⟩⟩))
    · rw [cd_cl (by omega : j < 65536)]
      exact br_f cd_one ⟨cd_vi hj, cy_in hj (br_f cd_one ⟨cd_vi hj, br_f (cd_qJ z) ⟨cd_vi hj, R.2.1 j hj z, rel⟩⟩)⟩
theorem i_vc_holderAt {k : Nat} {u : SX} {v : SY} (I : i_Rel k u v) (hk : k + 3 ≤ 1539) (v1 : Int32) (v2 : Int32) : wpX_holderAt (fun r => wpY_holderAt (fun r' => r' = r ∧ i_Rel (k + 3) u v) v v1 v2) u v1 v2 := by
  obtain ⟨a, b, c, cr, lv, vx, C, vy, ho, rfl, rfl, ha, hb, hc0, hc, R⟩ := I
  have rel : i_Rel (k + 3) (nI a, nI b, nI c, nI (cd_c lv 0 256), nI (cd_n C 256), cr, lv, vx, fun j => nI (C j)) (nI a, nI b, nI c, cr, lv, (fun j => nI (cd_q (C j))), vy, ho, 65536) :=
    ⟨a, b, c, cr, lv, vx, C, vy, ho, rfl, rfl, ha, hb, hc0, hc, R⟩
  have cl := cd_cle lv 0 256
  have hC := cr_C R
  unfold wpX_holderAt wpY_holderAt
  dsimp only
  rcases cd_rg v1 with hx | ⟨j, hj, rfl⟩
  · exact cx_out hx (br_t rfl (cy_out hx (br_t rfl ⟨rfl, rel⟩)))
  · have Rj := R.1 j hj
    have rt := cd_rot lv j
    refine cx_in hj (br_f cd_one ?_)
    rw [cd_cl (by omega : j < 65536)]
    by_cases n0 : v2 < 0
    · refine br_t n0 (cy_in hj (br_f cd_one ⟨cd_vi hj, br_c (fun _ => ⟨rfl, rel⟩) (fun _ => br_f (Int32.not_le.mpr n0) ⟨rfl, rel⟩)⟩))
    · refine br_f n0 ⟨cd_vi hj, ?_⟩
      have n1 : (0 : Int32) ≤ v2 := Int32.not_lt.mp n0
      obtain ⟨p, hp, rfl⟩ := nI_of n0
      have hCj := hC j hj
      refine pk_lt p (C j) (fun q => ?_) (fun q => ?_)
      · have z : ¬ C j = 0 := by omega
        refine cx_from hj hp (fun w => absurd w (by omega)) (fun d hd l e => ?_)
        refine cy_in hj (br_f cd_one ⟨cd_vi hj, br_f (cd_qJ z) (br_t n1 (cy_holder (m := C j) hj hp (fun n hn => R.2.2 j n hj hn z) (fun w => absurd w (by omega)) (fun d' hd' l' y e' => ?_)))⟩)
        have u := cd_uniq l l' (e.trans e'.symm)
        subst u
        exact ⟨rfl, rel⟩
      · refine cy_in hj (br_f cd_one ⟨cd_vi hj, ?_⟩)
        by_cases z : C j = 0
        · exact br_t (cd_qI z) ⟨rfl, rel⟩
        · exact br_f (cd_qJ z) (br_t n1 (cy_holder (m := C j) hj hp (fun n hn => R.2.2 j n hj hn z) (fun _ => ⟨rfl, rel⟩) (fun d' hd' l' y e' => absurd y (by omega))))
theorem i_vc_holds {k : Nat} {u : SX} {v : SY} (I : i_Rel k u v) (hk : k + 3 ≤ 1539) (v1 : Int32) (v2 : Int32) : wpX_holds (fun r => wpY_holds (fun r' => r' = r ∧ i_Rel (k + 3) u v) v v1 v2) u v1 v2 := by
  obtain ⟨a, b, c, cr, lv, vx, C, vy, ho, rfl, rfl, ha, hb, hc0, hc, R⟩ := I
  have rel : i_Rel (k + 3) (nI a, nI b, nI c, nI (cd_c lv 0 256), nI (cd_n C 256), cr, lv, vx, fun j => nI (C j)) (nI a, nI b, nI c, cr, lv, (fun j => nI (cd_q (C j))), vy, ho, 65536) :=
    ⟨a, b, c, cr, lv, vx, C, vy, ho, rfl, rfl, ha, hb, hc0, hc, R⟩
  have cl := cd_cle lv 0 256
  have hC := cr_C R
  unfold wpX_holds wpY_holds
  dsimp only
  rcases cd_rg v1 with hx | ⟨j, hj, rfl⟩
  · exact cx_out hx (br_t rfl (cy_out hx (br_t rfl ⟨rfl, rel⟩)))
  · rcases cd_rg v2 with hx | ⟨i, hi, rfl⟩
    · exact cx_in hj (br_f cd_one (cx_out hx (br_t rfl (cy_in hj (br_f cd_one (cy_out hx (br_t rfl ⟨rfl, rel⟩)))))))
    · refine cx_in hj (br_f cd_one (cx_in hi (br_f cd_one ?_)))
      rw [cd_cl (by omega : i < 65536), cd_ix, cd_cl (by omega : i * 256 + j < 65536)]
      refine cx_isHolder hi hj (hC i hi) (fun z => br_t rfl ?_) (fun z => br_f cd_one ?_)
      · refine cy_in hj (br_f cd_one (cy_in hi (br_f cd_one ⟨cd_vi hi, br_c (fun _ => ⟨rfl, rel⟩) (fun y => ?_)⟩)))
        have c0 : ¬ C i = 0 := fun w => y (cd_qI w)
        have ev := (R.2.2 i j hi hj c0).trans z
        exact ⟨cd_vh (by omega), cd_nb (Or.inl ev), ev, rel⟩
      · have c0 : ¬ C i = 0 := by
          have := (cd_hi z).2
          omega
        have ev := (R.2.2 i j hi hj c0).trans (cd_ht (cd_hi z).1 (cd_hi z).2)
        exact cy_in hj (br_f cd_one (cy_in hi (br_f cd_one ⟨cd_vi hi, br_f (cd_qJ c0) ⟨cd_vh (by omega), cd_nb (Or.inr ev), ev, rel⟩⟩)))
theorem i_vc_keysAt {k : Nat} {u : SX} {v : SY} (I : i_Rel k u v) (hk : k + 3 ≤ 1539) (v1 : Int32) : wpX_keysAt (fun r => wpY_keysAt (fun r' => r' = r ∧ i_Rel (k + 3) u v) v v1) u v1 := by
  obtain ⟨a, b, c, cr, lv, vx, C, vy, ho, rfl, rfl, ha, hb, hc0, hc, R⟩ := I
  have rel : i_Rel (k + 3) (nI a, nI b, nI c, nI (cd_c lv 0 256), nI (cd_n C 256), cr, lv, vx, fun j => nI (C j)) (nI a, nI b, nI c, cr, lv, (fun j => nI (cd_q (C j))), vy, ho, 65536) :=
    ⟨a, b, c, cr, lv, vx, C, vy, ho, rfl, rfl, ha, hb, hc0, hc, R⟩
  have cl := cd_cle lv 0 256
  have hC := cr_C R
  unfold wpX_keysAt
  dsimp only
  rcases cd_rg v1 with hx | ⟨j, hj, rfl⟩
  · unfold wpY_keysAt
    dsimp only
    exact cx_out hx (br_t rfl (cy_out hx (br_t rfl ⟨rfl, rel⟩)))
  · exact cx_in hj (br_f cd_one (cx_keys hj hC (cy_keysAt hj R.2.2 ⟨rfl, rel⟩)))
theorem i_vc_keyAt {k : Nat} {u : SX} {v : SY} (I : i_Rel k u v) (hk : k + 3 ≤ 1539) (v1 : Int32) (v2 : Int32) : wpX_keyAt (fun r => wpY_keyAt (fun r' => r' = r ∧ i_Rel (k + 3) u v) v v1 v2) u v1 v2 := by
  obtain ⟨a, b, c, cr, lv, vx, C, vy, ho, rfl, rfl, ha, hb, hc0, hc, R⟩ := I
  have rel : i_Rel (k + 3) (nI a, nI b, nI c, nI (cd_c lv 0 256), nI (cd_n C 256), cr, lv, vx, fun j => nI (C j)) (nI a, nI b, nI c, cr, lv, (fun j => nI (cd_q (C j))), vy, ho, 65536) :=
    ⟨a, b, c, cr, lv, vx, C, vy, ho, rfl, rfl, ha, hb, hc0, hc, R⟩
  have cl := cd_cle lv 0 256
  have hC := cr_C R
  unfold wpX_keyAt wpY_keyAt
  dsimp only
  rcases cd_rg v1 with hx | ⟨j, hj, rfl⟩
  · exact cx_out hx (br_t rfl (cy_out hx (br_t rfl ⟨rfl, rel⟩)))
  · refine cx_in hj (br_f cd_one ?_)
    by_cases n0 : v2 < 0
    · exact br_f (Int32.not_le.mpr n0) (cy_in hj (br_f cd_one (br_f (Int32.not_le.mpr n0) ⟨rfl, rel⟩)))
    · have n1 : (0 : Int32) ≤ v2 := Int32.not_lt.mp n0
      obtain ⟨p, hp, rfl⟩ := nI_of n0
      have tl := cd_tl lv C j 256
      refine br_t n1 (cx_key hj hp hC (fun w => ?_) (fun i hi z e => ?_))
      · exact cy_in hj (br_f cd_one (br_t n1 (cy_keysAt hj R.2.2 (pk_lt p (cd_t lv C j 256) (fun q => absurd q (by omega)) (fun _ => ⟨rfl, rel⟩)))))
      · have tt := cd_tlt hi z
        refine cy_in hj (br_f cd_one (br_t n1 (cy_keysAt hj R.2.2 (pk_lt p (cd_t lv C j 256) (fun q => ?_) (fun q => absurd tt (by omega))))))
        refine cy_key hj hp R.2.2 (fun w => absurd w (by omega)) (fun i' hi' z' e' => ?_)
        have u := cd_tuniq z z' (e.trans e'.symm)
        subst u
        exact ⟨rfl, rel⟩
end
