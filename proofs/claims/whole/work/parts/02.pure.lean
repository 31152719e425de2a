/-! pure part: live nodes counted clockwise from a key, the first c of them, sums over keys -/
def cd_b (x : Int32) : Nat := if x = 0 then 0 else 1
theorem cd_b0 {x : Int32} (h : x = 0) : cd_b x = 0 := if_pos h
theorem cd_b1 {x : Int32} (h : ¬ x = 0) : cd_b x = 1 := if_neg h
theorem cd_bl (x : Int32) : cd_b x ≤ 1 := by
  by_cases h : x = 0
  · have := cd_b0 h
    omega
  · have := cd_b1 h
    omega
def cd_q (x : Nat) : Nat := if x = 0 then 0 else 1
theorem cd_q0 {x : Nat} (h : x = 0) : cd_q x = 0 := if_pos h
theorem cd_q1 {x : Nat} (h : ¬ x = 0) : cd_q x = 1 := if_neg h
theorem cd_ql (x : Nat) : cd_q x ≤ 1 := by
  by_cases h : x = 0
  · have := cd_q0 h
    omega
  · have := cd_q1 h
    omega
theorem cd_qz {x : Nat} : cd_q x = 0 ↔ x = 0 := by
  by_cases h : x = 0
  · exact ⟨fun _ => h, fun _ => cd_q0 h⟩
  · have := cd_q1 h
    exact ⟨fun z => by omega, fun z => absurd z h⟩
/-- the live among the first d steps clockwise from k -/
def cd_c (lv : Nat → Int32) (k : Nat) : Nat → Nat
  | 0 => 0
  | d + 1 => cd_c lv k d + cd_b (lv ((k + d) % 256))
theorem cd_cs (lv : Nat → Int32) (k d : Nat) : cd_c lv k (d + 1) = cd_c lv k d + cd_b (lv ((k + d) % 256)) := rfl
theorem cd_ct {lv : Nat → Int32} {k d : Nat} (h : ¬ lv ((k + d) % 256) = 0) : cd_c lv k (d + 1) = cd_c lv k d + 1 := by
  have e := cd_cs lv k d
  have f := cd_b1 h
  omega
theorem cd_cf {lv : Nat → Int32} {k d : Nat} (h : lv ((k + d) % 256) = 0) : cd_c lv k (d + 1) = cd_c lv k d := by
  have e := cd_cs lv k d
  have f := cd_b0 h
  omega
theorem cd_mono (lv : Nat → Int32) (k : Nat) : ∀ e d, d ≤ e → cd_c lv k d ≤ cd_c lv k e := by
  intro e
  induction e with
  | zero =>
    intro d h
    have q : d = 0 := by omega
    subst q
    exact Nat.le_refl _
  | succ e ih =>
    intro d h
    by_cases q : d = e + 1
    · subst q
      exact Nat.le_refl _
    · have a := ih d (by omega)
      have b := cd_cs lv k e
      omega
theorem cd_cle (lv : Nat → Int32) (k : Nat) : ∀ d, cd_c lv k d ≤ d := by
  intro d
  induction d with
  | zero => exact Nat.le_refl _
  | succ d ih =>
    have b := cd_cs lv k d
    have c := cd_bl (lv ((k + d) % 256))
    omega
theorem cd_lt {lv : Nat → Int32} {k d e : Nat} (h : ¬ lv ((k + d) % 256) = 0) (hd : d < e) : cd_c lv k d < cd_c lv k e := by
  have a := cd_mono lv k e (d + 1) hd
  have b := cd_ct h
  omega
theorem cd_uniq {lv : Nat → Int32} {k d e : Nat} (h : ¬ lv ((k + d) % 256) = 0) (g : ¬ lv ((k + e) % 256) = 0) (q : cd_c lv k d = cd_c lv k e) : d = e := by
  rcases Nat.lt_trichotomy d e with a | a | a
  · have := cd_lt h a
    omega
  · exact a
  · have := cd_lt g a
    omega
theorem cd_ex (lv : Nat → Int32) (k : Nat) : ∀ e p, p < cd_c lv k e → ∃ d, d < e ∧ ¬ lv ((k + d) % 256) = 0 ∧ cd_c lv k d = p := by
  intro e
  induction e with
  | zero =>
    intro p h
    exact absurd h (Nat.not_lt_zero _)
  | succ e ih =>
    intro p h
    by_cases q : p < cd_c lv k e
    · obtain ⟨d, a, b, c⟩ := ih p q
      exact ⟨d, by omega, b, c⟩
    · by_cases z : lv ((k + e) % 256) = 0
      · have := cd_cf z
        omega
      · have := cd_ct z
        exact ⟨e, by omega, z, by omega⟩
theorem cd_shift (lv : Nat → Int32) (k : Nat) : ∀ d, cd_c lv k (d + 1) = cd_c lv (k + 1) d + cd_b (lv (k % 256)) := by
  intro d
  induction d with
  | zero =>
    have a := cd_cs lv k 0
    have b : cd_c lv k 0 = 0 := rfl
    have c : cd_c lv (k + 1) 0 = 0 := rfl
    rw [show k + 0 = k from rfl] at a
    omega
  | succ d ih =>
    have a := cd_cs lv k (d + 1)
    have b := cd_cs lv (k + 1) d
    rw [show k + (d + 1) = k + 1 + d by omega] at a
    omega
theorem cd_rot1 (lv : Nat → Int32) (k : Nat) : cd_c lv (k + 1) 256 = cd_c lv k 256 := by
  have a := cd_shift lv k 255
  have b := cd_cs lv (k + 1) 255
  rw [show (k + 1 + 255) % 256 = k % 256 by omega] at b
  exact b.trans a.symm
theorem cd_rot (lv : Nat → Int32) : ∀ k, cd_c lv k 256 = cd_c lv 0 256 := by
  intro k
  induction k with
  | zero => rfl
  | succ k ih => exact (cd_rot1 lv k).trans ih
/-- the steps from k to n -/
def cd_d (k n : Nat) : Nat := (n + 256 - k) % 256
theorem cd_dl (k n : Nat) : cd_d k n < 256 := Nat.mod_lt _ (by decide)
theorem cd_dn {k n : Nat} (hk : k < 256) (hn : n < 256) : (k + cd_d k n) % 256 = n := by
  unfold cd_d
  omega
theorem cd_dd {k d : Nat} (hk : k < 256) (hd : d < 256) : cd_d k ((k + d) % 256) = d := by
  unfold cd_d
  omega
/-- is n among the first c live clockwise from k -/
def cd_h (lv : Nat → Int32) (c k n : Nat) : Int32 := if lv n = 0 then 0 else if cd_c lv k (cd_d k n) < c then 1 else 0
theorem cd_hd {lv : Nat → Int32} {c k n : Nat} (h : lv n = 0) : cd_h lv c k n = 0 := if_pos h
theorem cd_ht {lv : Nat → Int32} {c k n : Nat} (h : ¬ lv n = 0) (g : cd_c lv k (cd_d k n) < c) : cd_h lv c k n = 1 := by
  unfold cd_h
  rw [if_neg h, if_pos g]
theorem cd_hf {lv : Nat → Int32} {c k n : Nat} (g : ¬ cd_c lv k (cd_d k n) < c) : cd_h lv c k n = 0 := by
  unfold cd_h
  by_cases h : lv n = 0
  · rw [if_pos h]
  · rw [if_neg h, if_neg g]
theorem cd_one : ¬ (1 : Int32) = 0 := by decide
theorem cd_hi {lv : Nat → Int32} {c k n : Nat} (h : ¬ cd_h lv c k n = 0) : ¬ lv n = 0 ∧ cd_c lv k (cd_d k n) < c := by
  by_cases a : lv n = 0
  · exact absurd (cd_hd a) h
  · by_cases b : cd_c lv k (cd_d k n) < c
    · exact ⟨a, b⟩
    · exact absurd (cd_hf b) h
theorem cd_hj {lv : Nat → Int32} {c k n : Nat} (h : ¬ lv n = 0) (g : cd_c lv k (cd_d k n) < c) : ¬ cd_h lv c k n = 0 := by
  rw [cd_ht h g]
  exact cd_one
theorem cd_h01 (lv : Nat → Int32) (c k n : Nat) : cd_h lv c k n = 0 ∨ cd_h lv c k n = 1 := by
  by_cases a : cd_h lv c k n = 0
  · exact Or.inl a
  · exact Or.inr (cd_ht (cd_hi a).1 (cd_hi a).2)
theorem cd_hz (lv : Nat → Int32) (k n : Nat) : cd_h lv 0 k n = 0 := cd_hf (Nat.not_lt_zero _)
theorem cd_hst {lv : Nat → Int32} {c k d : Nat} (hk : k < 256) (hd : d < 256) (h : ¬ lv ((k + d) % 256) = 0) (g : cd_c lv k d < c) : cd_h lv c k ((k + d) % 256) = 1 :=
  cd_ht h (by rw [cd_dd hk hd]; exact g)
theorem cd_hsf {lv : Nat → Int32} {c k d : Nat} (hk : k < 256) (hd : d < 256) (g : ¬ cd_c lv k d < c) : cd_h lv c k ((k + d) % 256) = 0 :=
  cd_hf (by rw [cd_dd hk hd]; exact g)
theorem cd_llt {lv : Nat → Int32} {k n : Nat} (hk : k < 256) (hn : n < 256) (h : ¬ lv n = 0) : cd_c lv k (cd_d k n) < cd_c lv 0 256 := by
  have e := cd_dn hk hn
  have g : ¬ lv ((k + cd_d k n) % 256) = 0 := by
    rw [e]
    exact h
  have s := cd_lt g (cd_dl k n)
  rw [cd_rot lv k] at s
  exact s
theorem cd_hm {lv : Nat → Int32} {c k n : Nat} (hk : k < 256) (hn : n < 256) : cd_h lv (min c (cd_c lv 0 256)) k n = cd_h lv c k n := by
  by_cases h : lv n = 0
  · rw [cd_hd h, cd_hd h]
  · have s := cd_llt hk hn h
    by_cases q : cd_c lv k (cd_d k n) < c
    · have q2 : cd_c lv k (cd_d k n) < min c (cd_c lv 0 256) := by omega
      rw [cd_ht h q, cd_ht h q2]
    · have q2 : ¬ cd_c lv k (cd_d k n) < min c (cd_c lv 0 256) := by omega
      rw [cd_hf q, cd_hf q2]
/-! one live node goes -/
theorem cd_rm {lv : Nat → Int32} {k i : Nat} (hk : k < 256) (hi : i < 256) (h : ¬ lv i = 0) : ∀ d, d ≤ 256 →
    (cd_d k i < d → cd_c lv k d = cd_c (upd lv i 0) k d + 1) ∧ (¬ cd_d k i < d → cd_c lv k d = cd_c (upd lv i 0) k d) := by
  intro d
  induction d with
  | zero =>
    intro _
    exact ⟨fun z => absurd z (Nat.not_lt_zero _), fun _ => rfl⟩
  | succ d ih =>
    intro hd
    obtain ⟨a1, a2⟩ := ih (by omega)
    have b := cd_cs lv k d
    have c := cd_cs (upd lv i 0) k d
    by_cases q : (k + d) % 256 = i
    · have e : cd_d k i = d := by
        rw [← q]
        exact cd_dd hk (by omega)
      have f : upd lv i 0 ((k + d) % 256) = 0 := by
        rw [q]
        exact pk_us
      have g : ¬ lv ((k + d) % 256) = 0 := by
        rw [q]
        exact h
      have f' := cd_b0 f
      have g' := cd_b1 g
      have a := a2 (by omega)
      exact ⟨fun _ => by omega, fun z => absurd (by omega) z⟩
    · have e : cd_d k i ≠ d := by
        intro z
        apply q
        rw [← z]
        exact cd_dn hk hi
      have f : upd lv i 0 ((k + d) % 256) = lv ((k + d) % 256) := pk_un q
      rw [f] at c
      by_cases z : cd_d k i < d
      · have a := a1 z
        exact ⟨fun _ => by omega, fun z => absurd (by omega) z⟩
      · have a := a2 z
        exact ⟨fun _ => by omega, fun _ => by omega⟩
theorem cd_rmN {lv : Nat → Int32} {i : Nat} (hi : i < 256) (h : ¬ lv i = 0) : cd_c lv 0 256 = cd_c (upd lv i 0) 0 256 + 1 :=
  (cd_rm (by decide) hi h 256 (Nat.le_refl _)).1 (cd_dl 0 i)
theorem cd_addN {lv : Nat → Int32} {i : Nat} (hi : i < 256) (h : lv i = 0) : cd_c (upd lv i 1) 0 256 = cd_c lv 0 256 + 1 := by
  have a := cd_rmN (lv := upd lv i 1) hi (by rw [pk_us]; exact cd_one)
  have e : upd (upd lv i 1) i 0 = lv := by
    funext j
    by_cases q : j = i
    · rw [q, pk_us, h]
    · rw [pk_un q, pk_un q]
  rw [e] at a
  exact a
theorem cd_crash {lv : Nat → Int32} {c k i n : Nat} (hk : k < 256) (hi : i < 256) (hn : n < 256) (h : ¬ lv i = 0) :
    (n = i → cd_h (upd lv i 0) (c - cd_b (cd_h lv c k i)) k n = 0) ∧ (n ≠ i → cd_h (upd lv i 0) (c - cd_b (cd_h lv c k i)) k n = cd_h lv c k n) := by
  constructor
  · intro q
    rw [q]
    exact cd_hd pk_us
  · intro q
    have en : upd lv i 0 n = lv n := pk_un q
    by_cases z : lv n = 0
    · rw [cd_hd z, cd_hd (en.trans z)]
    · have z' : ¬ upd lv i 0 n = 0 := by
        rw [en]
        exact z
      have dn := cd_dn hk hn
      have di := cd_dn hk hi
      have ne : cd_d k n ≠ cd_d k i := by
        intro w
        rw [w] at dn
        exact q (dn.symm.trans di)
      have ln : ¬ lv ((k + cd_d k n) % 256) = 0 := by
        rw [dn]
        exact z
      have li : ¬ lv ((k + cd_d k i) % 256) = 0 := by
        rw [di]
        exact h
      obtain ⟨r1, r2⟩ := cd_rm hk hi h (cd_d k n) (Nat.le_of_lt (cd_dl k n))
      by_cases o : cd_d k i < cd_d k n
      · have a1 := r1 o
        have a2 := cd_lt li o
        by_cases w : cd_c lv k (cd_d k i) < c
        · have b1 := cd_b1 (cd_hj h w)
          by_cases y : cd_c lv k (cd_d k n) < c
          · have y2 : cd_c (upd lv i 0) k (cd_d k n) < c - cd_b (cd_h lv c k i) := by omega
            rw [cd_ht z y, cd_ht z' y2]
          · have y2 : ¬ cd_c (upd lv i 0) k (cd_d k n) < c - cd_b (cd_h lv c k i) := by omega
            rw [cd_hf y, cd_hf y2]
        · have y : ¬ cd_c lv k (cd_d k n) < c := by omega
          have y2 : ¬ cd_c (upd lv i 0) k (cd_d k n) < c - cd_b (cd_h lv c k i) := by omega
          rw [cd_hf y, cd_hf y2]
      · have a1 := r2 o
        have a2 := cd_lt ln (by omega : cd_d k n < cd_d k i)
        by_cases w : cd_c lv k (cd_d k i) < c
        · have b1 := cd_b1 (cd_hj h w)
          have y : cd_c lv k (cd_d k n) < c := by omega
          have y2 : cd_c (upd lv i 0) k (cd_d k n) < c - cd_b (cd_h lv c k i) := by omega
          rw [cd_ht z y, cd_ht z' y2]
        · have b1 := cd_b0 (cd_hf w)
          by_cases y : cd_c lv k (cd_d k n) < c
          · have y2 : cd_c (upd lv i 0) k (cd_d k n) < c - cd_b (cd_h lv c k i) := by omega
            rw [cd_ht z y, cd_ht z' y2]
          · have y2 : ¬ cd_c (upd lv i 0) k (cd_d k n) < c - cd_b (cd_h lv c k i) := by omega
            rw [cd_hf y, cd_hf y2]
theorem cd_crashC {lv : Nat → Int32} {c k i m : Nat} (hk : k < 256) (hi : i < 256) (h : ¬ lv i = 0) (hc : c ≤ min m (cd_c lv 0 256)) :
    c - cd_b (cd_h lv c k i) ≤ min m (cd_c (upd lv i 0) 0 256) := by
  have a := cd_rmN hi h
  have b := cd_llt hk hi h
  by_cases w : cd_c lv k (cd_d k i) < c
  · have b1 := cd_b1 (cd_hj h w)
    omega
  · have b1 := cd_b0 (cd_hf w)
    omega
theorem cd_other {lv : Nat → Int32} {c k i : Nat} (hk : k < 256) (hi : i < 256) (hc : c ≤ cd_c lv 0 256) (hH : ¬ cd_h lv c k i = 0) :
    (c = 1 → ∀ n, n < 256 → n ≠ i → cd_h lv c k n = 0) ∧ (c ≠ 1 → ∃ n, n < 256 ∧ n ≠ i ∧ ¬ cd_h lv c k n = 0) := by
  obtain ⟨h, w⟩ := cd_hi hH
  have di := cd_dn hk hi
  constructor
  · intro c1 n hn q
    by_cases y : cd_h lv c k n = 0
    · exact y
    · obtain ⟨z, x⟩ := cd_hi y
      have dn := cd_dn hk hn
      have e : cd_d k n = cd_d k i := by
        refine cd_uniq (lv := lv) (k := k) ?_ ?_ (by omega)
        · rw [dn]
          exact z
        · rw [di]
          exact h
      rw [e] at dn
      exact absurd (dn.symm.trans di) q
  · intro c1
    have rt := cd_rot lv k
    have hp : ∃ p, p < c ∧ p ≠ cd_c lv k (cd_d k i) := by
      by_cases y : cd_c lv k (cd_d k i) = 0
      · exact ⟨1, by omega, by omega⟩
      · exact ⟨0, by omega, by omega⟩
    obtain ⟨p, hp, np⟩ := hp
    obtain ⟨d, hd, ld, ed⟩ := cd_ex lv k 256 p (by omega)
    refine ⟨(k + d) % 256, Nat.mod_lt _ (by decide), ?_, ?_⟩
    · intro e
      apply np
      rw [← e, cd_dd hk hd, ed]
    · rw [cd_hst hk hd ld (by omega)]
      exact cd_one
/-! sums -/
def cd_s (f : Nat → Nat) : Nat → Nat
  | 0 => 0
  | i + 1 => cd_s f i + f i
theorem cd_ss (f : Nat → Nat) (i : Nat) : cd_s f (i + 1) = cd_s f i + f i := rfl
theorem cd_sc {f g : Nat → Nat} : ∀ e, (∀ j, j < e → f j = g j) → cd_s f e = cd_s g e := by
  intro e
  induction e with
  | zero =>
    intro _
    rfl
  | succ e ih =>
    intro h
    have a := ih (fun j hj => h j (by omega))
    have b := h e (by omega)
    rw [cd_ss, cd_ss, a, b]
theorem cd_sl {f : Nat → Nat} {m : Nat} : ∀ e, (∀ j, j < e → f j ≤ m) → cd_s f e ≤ e * m := by
  intro e
  induction e with
  | zero =>
    intro _
    rw [Nat.zero_mul]
    exact Nat.le_refl _
  | succ e ih =>
    intro h
    have a := ih (fun j hj => h j (by omega))
    have b := h e (by omega)
    rw [cd_ss, Nat.succ_mul]
    omega
theorem cd_sa {f g h : Nat → Nat} : ∀ e, (∀ j, j < e → f j = g j + h j) → cd_s f e = cd_s g e + cd_s h e := by
  intro e
  induction e with
  | zero =>
    intro _
    rfl
  | succ e ih =>
    intro w
    have a := ih (fun j hj => w j (by omega))
    have b := w e (by omega)
    rw [cd_ss, cd_ss, cd_ss]
    omega
theorem cd_s0 {f : Nat → Nat} : ∀ e, (∀ j, j < e → f j = 0) → cd_s f e = 0 := by
  intro e
  induction e with
  | zero =>
    intro _
    rfl
  | succ e ih =>
    intro w
    have a := ih (fun j hj => w j (by omega))
    have b := w e (by omega)
    rw [cd_ss]
    omega
theorem cd_smono {f : Nat → Nat} : ∀ e d, d ≤ e → cd_s f d ≤ cd_s f e := by
  intro e
  induction e with
  | zero =>
    intro d h
    have q : d = 0 := by omega
    subst q
    exact Nat.le_refl _
  | succ e ih =>
    intro d h
    by_cases q : d = e + 1
    · subst q
      exact Nat.le_refl _
    · have a := ih d (by omega)
      have b := cd_ss f e
      omega
/-- the stored keys below i -/
def cd_n (C : Nat → Nat) (i : Nat) : Nat := cd_s (fun j => cd_q (C j)) i
theorem cd_nl (C : Nat → Nat) (i : Nat) : cd_n C i ≤ i := by
  have a := cd_sl (f := fun j => cd_q (C j)) (m := 1) i (fun j _ => cd_ql _)
  rw [Nat.mul_one] at a
  exact a
/-- what setTop creates in the first d steps -/
def cd_e (lv w : Nat → Int32) (c k d : Nat) : Nat := if lv ((k + d) % 256) = 0 then 0 else if cd_c lv k d < c then (if w ((k + d) % 256) = 0 then 1 else 0) else 0
def cd_r (lv w : Nat → Int32) (c k : Nat) : Nat → Nat := cd_s (cd_e lv w c k)
theorem cd_e0 {lv w : Nat → Int32} {c k d : Nat} (h : lv ((k + d) % 256) = 0) : cd_e lv w c k d = 0 := if_pos h
theorem cd_e1 {lv w : Nat → Int32} {c k d : Nat} (h : ¬ cd_c lv k d < c) : cd_e lv w c k d = 0 := by
  unfold cd_e
  by_cases g : lv ((k + d) % 256) = 0
  · rw [if_pos g]
  · rw [if_neg g, if_neg h]
theorem cd_e2 {lv w : Nat → Int32} {c k d : Nat} (h : ¬ w ((k + d) % 256) = 0) : cd_e lv w c k d = 0 := by
  unfold cd_e
  by_cases g : lv ((k + d) % 256) = 0
  · rw [if_pos g]
  · rw [if_neg g]
    by_cases y : cd_c lv k d < c
    · rw [if_pos y, if_neg h]
    · rw [if_neg y]
theorem cd_e3 {lv w : Nat → Int32} {c k d : Nat} (h : ¬ lv ((k + d) % 256) = 0) (g : cd_c lv k d < c) (y : w ((k + d) % 256) = 0) : cd_e lv w c k d = 1 := by
  unfold cd_e
  rw [if_neg h, if_pos g, if_pos y]
theorem cd_el (lv w : Nat → Int32) (c k d : Nat) : cd_e lv w c k d ≤ 1 := by
  by_cases h : lv ((k + d) % 256) = 0
  · rw [cd_e0 h]
    omega
  · by_cases g : cd_c lv k d < c
    · by_cases y : w ((k + d) % 256) = 0
      · rw [cd_e3 h g y]
        exact Nat.le_refl _
      · rw [cd_e2 y]
        omega
    · rw [cd_e1 g]
      omega
theorem cd_rl (lv w : Nat → Int32) (c k i : Nat) : cd_r lv w c k i ≤ i := by
  have a := cd_sl (f := cd_e lv w c k) (m := 1) i (fun j _ => cd_el _ _ _ _ _)
  rw [Nat.mul_one] at a
  exact a
theorem cd_rc {lv w w' : Nat → Int32} {c k : Nat} (h : ∀ n, n < 256 → w n = w' n) (d : Nat) : cd_r lv w c k d = cd_r lv w' c k d := by
  apply cd_sc
  intro j _
  unfold cd_e
  rw [h _ (Nat.mod_lt _ (by decide))]
theorem cd_rv {lv w : Nat → Int32} {c m k : Nat} (hk : k < 256) (hm : m ≤ c) (h : ∀ n, n < 256 → w n = cd_h lv m k n) :
    ∀ d, d ≤ 256 → cd_r lv w c k d + min (cd_c lv k d) m = min (cd_c lv k d) c := by
  intro d
  induction d with
  | zero =>
    intro _
    show 0 + min 0 m = min 0 c
    omega
  | succ d ih =>
    intro hd
    have a := ih (by omega)
    have b : cd_r lv w c k (d + 1) = cd_r lv w c k d + cd_e lv w c k d := rfl
    have e := h ((k + d) % 256) (Nat.mod_lt _ (by decide))
    by_cases z : lv ((k + d) % 256) = 0
    · have q1 := cd_cf z
      have q2 := cd_e0 (w := w) (c := c) z
      omega
    · have q1 := cd_ct z
      by_cases y : cd_c lv k d < m
      · rw [cd_hst hk (by omega) z y] at e
        have q2 := cd_e2 (lv := lv) (c := c) (by rw [e]; exact cd_one : ¬ w ((k + d) % 256) = 0)
        omega
      · rw [cd_hsf hk (by omega) y] at e
        by_cases x : cd_c lv k d < c
        · have q2 := cd_e3 z x e
          omega
        · have q2 := cd_e1 (w := w) x
          omega
theorem cd_rw {lv w : Nat → Int32} {c m k : Nat} (hk : k < 256) (hm : m ≤ min c (cd_c lv 0 256)) (h : ∀ n, n < 256 → w n = cd_h lv m k n) :
    cd_r lv w c k 256 = min c (cd_c lv 0 256) - m := by
  have q1 : m ≤ c := Nat.le_trans hm (Nat.min_le_left _ _)
  have q2 : m ≤ cd_c lv 0 256 := Nat.le_trans hm (Nat.min_le_right _ _)
  have a := cd_rv hk q1 h 256 (Nat.le_refl _)
  rw [cd_rot lv k, Nat.min_eq_right q2, Nat.min_comm] at a
  exact (Nat.sub_eq_of_eq_add a.symm).symm
