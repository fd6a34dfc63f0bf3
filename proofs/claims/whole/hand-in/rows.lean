section
/-! ===== Int32 by its bits: bt x i ===== -/
def bt (x : Int32) (i : Nat) : Bool := x.toBitVec.getLsbD i
theorem b_ext {x y : Int32} (h : ∀ i, i < 32 → bt x i = bt y i) : x = y := Int32.toBitVec_inj.mp (BitVec.eq_of_getLsbD_eq (fun i hi => h i hi))
theorem b_or (x y : Int32) (i : Nat) : bt (x ||| y) i = (bt x i || bt y i) := by unfold bt; rw [Int32.toBitVec_or, BitVec.getLsbD_or]
theorem b_and (x y : Int32) (i : Nat) : bt (x &&& y) i = (bt x i && bt y i) := by unfold bt; rw [Int32.toBitVec_and, BitVec.getLsbD_and]
theorem b_xor (x y : Int32) (i : Nat) : bt (x ^^^ y) i = (bt x i ^^ bt y i) := by unfold bt; rw [Int32.toBitVec_xor, BitVec.getLsbD_xor]
theorem b_big {x : Int32} {i : Nat} (h : 32 ≤ i) : bt x i = false := BitVec.getLsbD_of_ge _ _ h
theorem b_m1 : ∀ i, i < 32 → bt (-1) i = true := by decide +kernel
theorem b_0 (i : Nat) : bt 0 i = false := BitVec.getLsbD_zero
theorem s_l : ∀ n, n < 32 → ((nI n &&& 31).toBitVec.smod 32).toNat = n := by decide +kernel
theorem b_shl (n : Nat) (hn : n < 32) (x : Int32) {i : Nat} (hi : i < 32) : bt (x <<< (nI n &&& 31)) i = (decide (n ≤ i) && bt x (i - n)) := by
  unfold bt
  rw [Int32.toBitVec_shiftLeft]
  show (x.toBitVec <<< ((nI n &&& 31).toBitVec.smod 32).toNat).getLsbD i = _
  rw [s_l n hn, BitVec.getLsbD_shiftLeft]
  rcases Nat.lt_or_ge i n with h | h
  · simp [h, Nat.not_le.mpr h]
  · simp [hi, h, Nat.not_lt.mpr h]
theorem b_sshr (n : Nat) (hn : n < 32) (x : Int32) {i : Nat} (hi : i < 32) : bt (x >>> (nI n &&& 31)) i = if n + i < 32 then bt x (n + i) else bt x 31 := by
  unfold bt
  rw [Int32.toBitVec_shiftRight]
  show (x.toBitVec.sshiftRight ((nI n &&& 31).toBitVec.smod 32).toNat).getLsbD i = _
  rw [s_l n hn, BitVec.getLsbD_sshiftRight, BitVec.msb_eq_getLsbD_last]
  simp [hi]
theorem pk_us {f : Nat → Int32} {k : Nat} {x : Int32} : upd f k x k = x := if_pos rfl
theorem pk_un {f : Nat → Int32} {k j : Nat} {x : Int32} (h : j ≠ k) : upd f k x j = f j := if_neg h
theorem pk_ix (x : Int32) {n : Nat} (hn : n < 2 ^ 31) : x < 0 ∨ nI n ≤ x ∨ ∃ j : Nat, j < n ∧ x = nI j := by
  by_cases h : x < 0
  · exact Or.inl h
  · obtain ⟨j, hj, rfl⟩ := nI_of h
    by_cases h2 : j < n
    · exact Or.inr (Or.inr ⟨j, h2, rfl⟩)
    · exact Or.inr (Or.inl (nI_le (by omega) hj))
theorem pk_le {x y : Int32} {A B : Prop} (a b : Nat) (f : a ≤ b → A) (g : b < a → B) (hx : x = nI a := by rfl) (hy : y = nI b := by rfl) (ha : a < 2 ^ 31 := by omega) (hb : b < 2 ^ 31 := by omega) : (x ≤ y → A) ∧ (¬ x ≤ y → B) := by
  subst hx hy
  rw [nI_leI ha hb]
  exact ⟨f, fun z => g (by omega)⟩
theorem pk_lt {x y : Int32} {A B : Prop} (a b : Nat) (f : a < b → A) (g : b ≤ a → B) (hx : x = nI a := by rfl) (hy : y = nI b := by rfl) (ha : a < 2 ^ 31 := by omega) (hb : b < 2 ^ 31 := by omega) : (x < y → A) ∧ (¬ x < y → B) := by
  subst hx hy
  rw [nI_ltI ha hb]
  exact ⟨f, fun z => g (by omega)⟩
theorem pk_eq {x y : Int32} {A B : Prop} (a b : Nat) (f : a = b → A) (g : a ≠ b → B) (hx : x = nI a := by rfl) (hy : y = nI b := by rfl) (ha : a < 2 ^ 31 := by omega) (hb : b < 2 ^ 31 := by omega) : (x = y → A) ∧ (¬ x = y → B) := by
  subst hx hy
  rw [nI_eq ha hb]
  exact ⟨f, g⟩
theorem pk_in {x : Int32} (n N : Nat) (h : n < N) (hx : x = nI n := by rfl) (hN : N < 2 ^ 31 := by omega) : vp_in x N := by
  subst hx
  exact vp_in_nI h hN
/-! ===== one bit: test, set, clear ===== -/
theorem hv_b1 : ∀ i, i < 32 → bt 1 i = decide (i = 0) := by decide +kernel
theorem hv_1 : ∀ n, n < 32 → ∀ i, i < 32 → bt ((1 : Int32) <<< (nI n &&& 31)) i = decide (i = n) := by decide +kernel
theorem hv_not (x : Int32) {i : Nat} (hi : i < 32) : bt (x ^^^ (-1)) i = !bt x i := by
  rw [b_xor, b_m1 i hi]
  cases bt x i <;> rfl
theorem hv_lt32 {x : Int32} {i : Nat} (h : bt x i = true) : i < 32 := by
  rcases Nat.lt_or_ge i 32 with z | z
  · exact z
  · rw [b_big z] at h; cases h
theorem hv_get (s : Int32) {j : Nat} (hj : j < 32) : (s >>> (nI j &&& 31)) &&& 1 = if bt s j = true then 1 else 0 := by
  apply b_ext
  intro i hi
  rw [b_and, b_sshr j hj s hi, hv_b1 i hi]
  rcases Nat.eq_zero_or_pos i with h | h
  · subst h
    rw [if_pos (show j + 0 < 32 by omega)]
    cases z : bt s j
    · simp [z, b_0]
    · simp [z, hv_b1 0 hi]
  · rw [decide_eq_false (by omega), Bool.and_false]
    cases z : bt s j
    · simp [b_0]
    · simp only [if_true]; rw [hv_b1 i hi, decide_eq_false (by omega)]
theorem hv_gt {s : Int32} {j : Nat} (hj : j < 32) (h : bt s j = true) : (s >>> (nI j &&& 31)) &&& 1 = 1 := by rw [hv_get s hj, if_pos h]
theorem hv_gf {s : Int32} {j : Nat} (hj : j < 32) (h : bt s j = false) : (s >>> (nI j &&& 31)) &&& 1 = 0 := by rw [hv_get s hj, if_neg (by rw [h]; decide)]
theorem hv_gn {s : Int32} {j : Nat} (hj : j < 32) (h : bt s j = false) : ¬ (s >>> (nI j &&& 31)) &&& 1 = 1 := by rw [hv_gf hj h]; decide
theorem hv_gz {s : Int32} {j : Nat} (hj : j < 32) (h : bt s j = true) : ¬ (s >>> (nI j &&& 31)) &&& 1 = 0 := by rw [hv_gt hj h]; decide
theorem hv_16 {i : Nat} (h : i < 16) : ¬ (16 : Int32) ≤ nI i := nI_ge (b := 16) h (by decide)
theorem hv_16e : (16 : Int32) ≤ nI 16 := by decide
theorem hv_neg {i : Nat} (h : i < 16) : ¬ nI i < 0 := nI_pos (by omega)
theorem hv_cl {i : Nat} (h : i < 16) : (nI i).toNatClampNeg = i := nI_clamp (by omega)
theorem hv_in16 {i : Nat} (h : i < 16) : vp_in (nI i) 16 := vp_in_nI h (by decide)
theorem hv_10 : ¬ (1 : Int32) = 0 := by decide
def hv_b (b : Bool) : Int32 := if b = true then 1 else 0
theorem hv_bn (b : Bool) : narrow .boolean (.int (hv_b b)) = .int (hv_b b) := by cases b <;> rfl
/-! ===== what is reached: 16 rounds of 16 steps ===== -/
def hv_in (r : Nat → Int32) (m s : Int32) : Nat → Int32
  | 0 => s
  | i + 1 => if bt (hv_in r m s i) i = true then hv_in r m s i ||| (r i &&& m) else hv_in r m s i
def hv_out (r : Nat → Int32) (m s : Int32) : Nat → Int32
  | 0 => s
  | k + 1 => hv_in r m (hv_out r m s k) 16
theorem hv_in_t {r : Nat → Int32} {m s : Int32} {i : Nat} (h : bt (hv_in r m s i) i = true) : hv_in r m s (i + 1) = hv_in r m s i ||| (r i &&& m) := if_pos h
theorem hv_in_f {r : Nat → Int32} {m s : Int32} {i : Nat} (h : bt (hv_in r m s i) i = false) : hv_in r m s (i + 1) = hv_in r m s i := if_neg (by rw [h]; decide)
theorem hv_in_c {r : Nat → Int32} {m m' : Int32} (s : Int32) (h : ∀ a, a < 16 → r a &&& m = r a &&& m') : ∀ i, i ≤ 16 → hv_in r m s i = hv_in r m' s i := by
  intro i
  induction i with
  | zero => intro _; rfl
  | succ i ih =>
    intro hi
    have e := ih (by omega)
    have e2 := h i (by omega)
    show (if bt (hv_in r m s i) i = true then hv_in r m s i ||| (r i &&& m) else hv_in r m s i) = (if bt (hv_in r m' s i) i = true then hv_in r m' s i ||| (r i &&& m') else hv_in r m' s i)
    rw [e, e2]
theorem hv_out_c {r : Nat → Int32} {m m' : Int32} (s : Int32) (h : ∀ a, a < 16 → r a &&& m = r a &&& m') : ∀ k, hv_out r m s k = hv_out r m' s k := by
  intro k
  induction k with
  | zero => rfl
  | succ k ih =>
    show hv_in r m (hv_out r m s k) 16 = hv_in r m' (hv_out r m' s k) 16
    rw [ih, hv_in_c _ h 16 (Nat.le_refl _)]
theorem hv_in_m {r : Nat → Int32} {m s : Int32} {j : Nat} (h : bt s j = true → bt m j = true) : ∀ i, bt (hv_in r m s i) j = true → bt m j = true := by
  intro i
  induction i with
  | zero => exact h
  | succ i ih =>
    cases z : bt (hv_in r m s i) i
    · rw [hv_in_f z]; exact ih
    · rw [hv_in_t z, b_or, b_and]
      intro g
      cases g1 : bt (hv_in r m s i) j
      · rw [g1] at g
        cases g2 : bt m j
        · rw [g2] at g; simp at g
        · rfl
      · exact ih g1
theorem hv_out_m {r : Nat → Int32} {m s : Int32} {j : Nat} (h : bt s j = true → bt m j = true) : ∀ k, bt (hv_out r m s k) j = true → bt m j = true := by
  intro k
  induction k with
  | zero => exact h
  | succ k ih => exact hv_in_m ih 16
theorem hv_in_u {r : Nat → Int32} {m s : Int32} {j : Nat} : ∀ i, bt (hv_in r m s i) j = false → bt s j = false := by
  intro i
  induction i with
  | zero => exact id
  | succ i ih =>
    cases z : bt (hv_in r m s i) i
    · rw [hv_in_f z]; exact ih
    · rw [hv_in_t z, b_or]
      intro g
      exact ih (Bool.or_eq_false_iff.mp g).1
theorem hv_in_d {r : Nat → Int32} {m m' s : Int32} {a : Nat} (ha : bt m' a = false) (hm : ∀ j, j < 32 → j ≠ a → bt m' j = bt m j) : ∀ i, bt (hv_in r m s i) a = false → hv_in r m' s i = hv_in r m s i := by
  intro i
  induction i with
  | zero => intro _; rfl
  | succ i ih =>
    cases z : bt (hv_in r m s i) i
    · rw [hv_in_f z]
      intro g
      have e := ih g
      rw [hv_in_f (by rw [e]; exact z), e]
    · rw [hv_in_t z, b_or]
      intro g
      obtain ⟨g1, g2⟩ := Bool.or_eq_false_iff.mp g
      have e := ih g1
      rw [hv_in_t (by rw [e]; exact z), e]
      have e3 : r i &&& m' = r i &&& m := by
        apply b_ext
        intro j hj
        by_cases q : j = a
        · subst q; rw [g2, b_and, ha, Bool.and_false]
        · rw [b_and, b_and, hm j hj q]
      rw [e3]
theorem hv_out_d {r : Nat → Int32} {m m' s : Int32} {a : Nat} (ha : bt m' a = false) (hm : ∀ j, j < 32 → j ≠ a → bt m' j = bt m j) : ∀ k, bt (hv_out r m s k) a = false → hv_out r m' s k = hv_out r m s k ∧ bt s a = false := by
  intro k
  induction k with
  | zero => intro h; exact ⟨rfl, h⟩
  | succ k ih =>
    intro h
    have h2 : bt (hv_out r m s k) a = false := hv_in_u 16 h
    obtain ⟨e, es⟩ := ih h2
    refine ⟨?_, es⟩
    show hv_in r m' (hv_out r m' s k) 16 = hv_in r m (hv_out r m s k) 16
    rw [e]
    exact hv_in_d ha hm 16 h
/-! ===== the live objects, what is reached without x, what x keeps ===== -/
def hv_L (e ro : Int32) (r : Nat → Int32) : Int32 := hv_out r e (ro &&& e) 16
def hv_M (e : Int32) (x : Nat) : Int32 := e &&& (((1 : Int32) <<< (nI x &&& 31)) ^^^ (-1))
def hv_Q (e ro : Int32) (r : Nat → Int32) (x : Nat) : Int32 := hv_out r (hv_M e x) (ro &&& hv_M e x) 16
def hv_K (e ro : Int32) (r : Nat → Int32) (x : Nat) : Int32 := hv_L e ro r &&& (hv_Q e ro r x ^^^ (-1))
theorem hv_Mb (e : Int32) {x j : Nat} (hx : x < 32) (hj : j < 32) : bt (hv_M e x) j = (bt e j && !decide (j = x)) := by
  unfold hv_M
  rw [b_and, hv_not _ hj, hv_1 x hx j hj]
theorem hv_L_e {e ro : Int32} {r : Nat → Int32} {j : Nat} (h : bt (hv_L e ro r) j = true) : bt e j = true := by
  refine hv_out_m (s := ro &&& e) ?_ 16 h
  rw [b_and]
  intro g
  exact (Bool.and_eq_true_iff.mp g).2
theorem hv_K_L {e ro : Int32} {r : Nat → Int32} {x j : Nat} (h : bt (hv_K e ro r x) j = true) : bt (hv_L e ro r) j = true := by
  unfold hv_K at h
  rw [b_and] at h
  exact (Bool.and_eq_true_iff.mp h).1
theorem hv_K_dead {e ro : Int32} {r : Nat → Int32} {a : Nat} (ha : a < 32) (h : bt (hv_L e ro r) a = false) : hv_K e ro r a = 0 := by
  have h1 : bt (hv_M e a) a = false := by rw [hv_Mb e ha ha]; simp
  have h2 : ∀ j, j < 32 → j ≠ a → bt (hv_M e a) j = bt e j := by
    intro j hj q
    rw [hv_Mb e ha hj, decide_eq_false q]
    simp
  obtain ⟨e1, e2⟩ := hv_out_d h1 h2 16 h
  have e3 : ro &&& hv_M e a = ro &&& e := by
    apply b_ext
    intro j hj
    by_cases q : j = a
    · subst q; rw [e2, b_and, h1, Bool.and_false]
    · rw [b_and, b_and, h2 j hj q]
  have e4 : hv_Q e ro r a = hv_L e ro r := by
    unfold hv_Q
    rw [e3]
    exact e1
  unfold hv_K
  rw [e4]
  apply b_ext
  intro j hj
  rw [b_and, hv_not _ hj, b_0]
  cases bt (hv_L e ro r) j <;> rfl
theorem hv_K_self {e ro : Int32} {r : Nat → Int32} {x : Nat} (h : bt (hv_L e ro r) x = true) : bt (hv_K e ro r x) x = true := by
  have hx := hv_lt32 h
  unfold hv_K
  rw [b_and, hv_not _ hx, h]
  have h1 : bt (hv_M e x) x = false := by rw [hv_Mb e hx hx]; simp
  have h2 : bt (hv_Q e ro r x) x = false := by
    cases z : bt (hv_Q e ro r x) x
    · rfl
    · have := hv_out_m (r := r) (m := hv_M e x) (s := ro &&& hv_M e x) (j := x) (by rw [b_and]; intro g; exact (Bool.and_eq_true_iff.mp g).2) 16 z
      rw [h1] at this
      cases this
  rw [h2]
  rfl
end
section
/-! ===== counts, first hits, all, sums ===== -/
def hv_cn (p : Nat → Bool) : Nat → Nat
  | 0 => 0
  | i + 1 => if p i = true then hv_cn p i + 1 else hv_cn p i
theorem hv_cn_t {p : Nat → Bool} {i : Nat} (h : p i = true) : hv_cn p (i + 1) = hv_cn p i + 1 := if_pos h
theorem hv_cn_f {p : Nat → Bool} {i : Nat} (h : p i = false) : hv_cn p (i + 1) = hv_cn p i := if_neg (by rw [h]; decide)
theorem hv_cn_c {p q : Nat → Bool} : ∀ i, (∀ a, a < i → p a = q a) → hv_cn p i = hv_cn q i := by
  intro i
  induction i with
  | zero => intro _; rfl
  | succ i ih =>
    intro h
    show (if p i = true then hv_cn p i + 1 else hv_cn p i) = (if q i = true then hv_cn q i + 1 else hv_cn q i)
    rw [ih (fun a ha => h a (by omega)), h i (by omega)]
theorem hv_cn_le (p : Nat → Bool) : ∀ i, hv_cn p i ≤ i := by
  intro i
  induction i with
  | zero => exact Nat.le_refl _
  | succ i ih =>
    cases z : p i
    · rw [hv_cn_f z]; omega
    · rw [hv_cn_t z]; omega
theorem hv_cn_m {p q : Nat → Bool} : ∀ i, (∀ a, a < i → p a = true → q a = true) → hv_cn p i ≤ hv_cn q i := by
  intro i
  induction i with
  | zero => intro _; exact Nat.le_refl _
  | succ i ih =>
    intro h
    have e := ih (fun a ha => h a (by omega))
    cases z : p i
    · rw [hv_cn_f z]
      cases y : q i
      · rw [hv_cn_f y]; exact e
      · rw [hv_cn_t y]; omega
    · rw [hv_cn_t z, hv_cn_t (h i (by omega) z)]; omega
theorem hv_cn_lt {p q : Nat → Bool} {b : Nat} (hp : p b = false) (hq : q b = true) : ∀ i, b < i → (∀ a, a < i → p a = true → q a = true) → hv_cn p i < hv_cn q i := by
  intro i
  induction i with
  | zero => intro h; omega
  | succ i ih =>
    intro hb h
    by_cases e : b = i
    · subst e
      rw [hv_cn_f hp, hv_cn_t hq]
      have := hv_cn_m b (fun a ha => h a (by omega))
      omega
    · have g := ih (by omega) (fun a ha => h a (by omega))
      cases z : p i
      · rw [hv_cn_f z]
        cases y : q i
        · rw [hv_cn_f y]; exact g
        · rw [hv_cn_t y]; omega
      · rw [hv_cn_t z, hv_cn_t (h i (by omega) z)]; omega
theorem hv_cn_1 {p q : Nat → Bool} {b : Nat} (hp : p b = false) (hq : q b = true) : ∀ i, b < i → (∀ a, a < i → a ≠ b → q a = p a) → hv_cn q i = hv_cn p i + 1 := by
  intro i
  induction i with
  | zero => intro h; omega
  | succ i ih =>
    intro hb h
    by_cases e : b = i
    · subst e
      rw [hv_cn_f hp, hv_cn_t hq, hv_cn_c b (fun a ha => h a (by omega) (by omega))]
    · have g := ih (by omega) (fun a ha => h a (by omega))
      have h2 := h i (by omega) (by omega)
      cases z : p i
      · rw [z] at h2; rw [hv_cn_f z, hv_cn_f h2]; exact g
      · rw [z] at h2; rw [hv_cn_t z, hv_cn_t h2, g]
theorem hv_cn_0 {p : Nat → Bool} : ∀ i, (∀ a, a < i → p a = false) → hv_cn p i = 0 := by
  intro i
  induction i with
  | zero => intro _; rfl
  | succ i ih => intro h; rw [hv_cn_f (h i (by omega))]; exact ih (fun a ha => h a (by omega))
def hv_fst (p : Nat → Bool) : Nat → Nat → Int32
  | 0, _ => -1
  | d + 1, i => if p i = true then nI i else hv_fst p d (i + 1)
theorem hv_fst_t {p : Nat → Bool} {d i : Nat} (h : p i = true) : hv_fst p (d + 1) i = nI i := if_pos h
theorem hv_fst_f {p : Nat → Bool} {d i : Nat} (h : p i = false) : hv_fst p (d + 1) i = hv_fst p d (i + 1) := if_neg (by rw [h]; decide)
theorem hv_fst_c {p q : Nat → Bool} : ∀ d i, (∀ a, i ≤ a → a < i + d → p a = q a) → hv_fst p d i = hv_fst q d i := by
  intro d
  induction d with
  | zero => intro _ _; rfl
  | succ d ih =>
    intro i h
    show (if p i = true then nI i else hv_fst p d (i + 1)) = (if q i = true then nI i else hv_fst q d (i + 1))
    rw [h i (by omega) (by omega), ih (i + 1) (fun a h1 h2 => h a (by omega) (by omega))]
theorem hv_fst_h {p : Nat → Bool} {b : Nat} (hb : p b = true) : ∀ d i, i ≤ b → b < i + d → (∀ a, i ≤ a → a < i + d → p a = true → a = b) → hv_fst p d i = nI b := by
  intro d
  induction d with
  | zero => intro i h1 h2; omega
  | succ d ih =>
    intro i h1 h2 h
    cases z : p i
    · rw [hv_fst_f z]
      have : i ≠ b := by intro e; subst e; rw [hb] at z; cases z
      exact ih (i + 1) (by omega) (by omega) (fun a h3 h4 => h a (by omega) (by omega))
    · rw [hv_fst_t z, h i (by omega) (by omega) z]
theorem hv_fst_n {p : Nat → Bool} : ∀ d i, (∀ a, i ≤ a → a < i + d → p a = false) → hv_fst p d i = -1 := by
  intro d
  induction d with
  | zero => intro _ _; rfl
  | succ d ih =>
    intro i h
    rw [hv_fst_f (h i (by omega) (by omega))]
    exact ih (i + 1) (fun a h1 h2 => h a (by omega) (by omega))
def hv_all (q : Nat → Bool) : Nat → Bool
  | 0 => true
  | i + 1 => hv_all q i && q i
theorem hv_all_i {q : Nat → Bool} : ∀ i, hv_all q i = true ↔ ∀ a, a < i → q a = true := by
  intro i
  induction i with
  | zero => exact ⟨fun _ a h => absurd h (Nat.not_lt_zero a), fun _ => rfl⟩
  | succ i ih =>
    show (hv_all q i && q i) = true ↔ _
    rw [Bool.and_eq_true_iff, ih]
    constructor
    · intro ⟨h1, h2⟩ a ha
      by_cases e : a = i
      · subst e; exact h2
      · exact h1 a (by omega)
    · intro h
      exact ⟨fun a ha => h a (by omega), h i (by omega)⟩
def hv_sum (s : Int32) (z : Nat → Int32) : Nat → Int32
  | 0 => 0
  | i + 1 => if bt s i = true then hv_sum s z i + z i else hv_sum s z i
theorem hv_sum_t {s : Int32} {z : Nat → Int32} {i : Nat} (h : bt s i = true) : hv_sum s z (i + 1) = hv_sum s z i + z i := if_pos h
theorem hv_sum_f {s : Int32} {z : Nat → Int32} {i : Nat} (h : bt s i = false) : hv_sum s z (i + 1) = hv_sum s z i := if_neg (by rw [h]; decide)
theorem hv_sum_0 (z : Nat → Int32) : ∀ i, hv_sum 0 z i = 0 := by
  intro i
  induction i with
  | zero => rfl
  | succ i ih => rw [hv_sum_f (b_0 i), ih]
theorem hv_sum_n {s : Int32} {z : Nat → Int32} (h : ∀ a, a < 16 → bt s a = true → ∃ w, 1 ≤ w ∧ w ≤ 100 ∧ z a = nI w) : ∀ i, i ≤ 16 → ∃ w, w ≤ 100 * i ∧ hv_sum s z i = nI w ∧ (∀ a, a < i → bt s a = true → 1 ≤ w) := by
  intro i
  induction i with
  | zero => intro _; exact ⟨0, by omega, rfl, fun a ha => absurd ha (Nat.not_lt_zero a)⟩
  | succ i ih =>
    intro hi
    obtain ⟨w, h1, h2, h3⟩ := ih (by omega)
    cases g : bt s i
    · refine ⟨w, by omega, by rw [hv_sum_f g, h2], ?_⟩
      intro a ha hb
      by_cases e : a = i
      · subst e; rw [g] at hb; cases hb
      · exact h3 a (by omega) hb
    · obtain ⟨y, y1, y2, y3⟩ := h i (by omega) g
      refine ⟨w + y, by omega, by rw [hv_sum_t g, h2, y3, nI_add], ?_⟩
      intro a ha hb
      omega
/-! ===== the order of suspects: heavier first, then the lesser number ===== -/
def hv_bf (w : Nat → Nat) (z y : Nat) : Bool := decide (w y < w z) || (decide (w z = w y) && decide (z < y))
theorem hv_bf_i {w : Nat → Nat} {z y : Nat} : hv_bf w z y = true ↔ (w y < w z ∨ (w z = w y ∧ z < y)) := by
  unfold hv_bf
  simp
def hv_rk (S : Nat → Bool) (w : Nat → Nat) (y : Nat) : Nat := hv_cn (fun z => S z && hv_bf w z y) 16
theorem hv_rk_u {S : Nat → Bool} {w : Nat → Nat} {x y : Nat} (hx : x < 16) (hy : y < 16) (sx : S x = true) (sy : S y = true) (h : hv_rk S w x = hv_rk S w y) : x = y := by
  have key : ∀ a b, a < 16 → S a = true → hv_bf w a b = true → hv_rk S w a < hv_rk S w b := by
    intro a b ha sa hab
    have hab' := hv_bf_i.mp hab
    refine hv_cn_lt (b := a) ?_ ?_ 16 ha ?_
    · have : hv_bf w a a = false := by
        cases z : hv_bf w a a
        · rfl
        · have := hv_bf_i.mp z; omega
      simp [this]
    · simp [sa, hab]
    · intro c hc h1
      have h1 : (S c && hv_bf w c a) = true := h1
      obtain ⟨g1, g2⟩ := Bool.and_eq_true_iff.mp h1
      have g3 := hv_bf_i.mp g2
      show (S c && hv_bf w c b) = true
      rw [g1, hv_bf_i.mpr (by omega)]
      rfl
  by_cases e : x = y
  · exact e
  · rcases Nat.lt_trichotomy (w x) (w y) with g | g | g
    · have := key y x hy sy (hv_bf_i.mpr (by omega)); omega
    · by_cases e2 : x < y
      · have := key x y hx sx (hv_bf_i.mpr (by omega)); omega
      · have := key y x hy sy (hv_bf_i.mpr (by omega)); omega
    · have := key x y hx sx (hv_bf_i.mpr (by omega)); omega
theorem hv_rk_lt {S : Nat → Bool} {w : Nat → Nat} {y : Nat} (hy : y < 16) (sy : S y = true) : hv_rk S w y < hv_cn S 16 := by
  refine hv_cn_lt (b := y) ?_ sy 16 hy ?_
  · have : hv_bf w y y = false := by
      cases z : hv_bf w y y
      · rfl
      · have := hv_bf_i.mp z; omega
    simp [this]
  · intro c hc h1
    exact (Bool.and_eq_true_iff.mp h1).1
/-- left after j takes: T is what is left of S -/
def hv_Sel (S T : Nat → Bool) (w : Nat → Nat) (j : Nat) : Prop :=
  (∀ a, a < 16 → T a = true → S a = true) ∧ hv_cn (fun a => S a && !T a) 16 = j ∧ ∀ a b, a < 16 → b < 16 → S a = true → T a = false → T b = true → hv_bf w a b = true
/-- h is the top of T -/
def hv_Top (T : Nat → Bool) (w : Nat → Nat) (h : Nat) : Prop := h < 16 ∧ T h = true ∧ ∀ a, a < 16 → T a = true → a ≠ h → hv_bf w h a = true
theorem hv_Sel_0 (S : Nat → Bool) (w : Nat → Nat) : hv_Sel S S w 0 := by
  refine ⟨fun a _ h => h, hv_cn_0 16 (fun a _ => by cases S a <;> rfl), fun a b _ _ h1 h2 => by rw [h1] at h2; cases h2⟩
theorem hv_Sel_r {S T : Nat → Bool} {w : Nat → Nat} {j h : Nat} (A : hv_Sel S T w j) (B : hv_Top T w h) : S h = true ∧ hv_rk S w h = j := by
  obtain ⟨a1, a2, a3⟩ := A
  obtain ⟨b1, b2, b3⟩ := B
  refine ⟨a1 h b1 b2, ?_⟩
  rw [← a2]
  refine hv_cn_c 16 (fun a ha => ?_)
  show (S a && hv_bf w a h) = (S a && !T a)
  cases sa : S a
  · rfl
  · cases ta : T a
    · rw [a3 a h ha b1 sa ta b2]; rfl
    · have : hv_bf w a h = false := by
        cases z : hv_bf w a h
        · rfl
        · have g1 := hv_bf_i.mp z
          by_cases e : a = h
          · subst e; omega
          · have g2 := hv_bf_i.mp (b3 a ha ta e); omega
      rw [this]; rfl
theorem hv_Sel_s {S T T' : Nat → Bool} {w : Nat → Nat} {j h : Nat} (A : hv_Sel S T w j) (B : hv_Top T w h) (hT : T' h = false) (hT2 : ∀ a, a < 16 → a ≠ h → T' a = T a) : hv_Sel S T' w (j + 1) := by
  obtain ⟨a1, a2, a3⟩ := A
  obtain ⟨b1, b2, b3⟩ := B
  refine ⟨?_, ?_, ?_⟩
  · intro a ha ta
    by_cases e : a = h
    · subst e; rw [hT] at ta; cases ta
    · rw [hT2 a ha e] at ta; exact a1 a ha ta
  · rw [← a2]
    refine hv_cn_1 (b := h) ?_ ?_ 16 b1 ?_
    · simp [b2]
    · simp [hT, a1 h b1 b2]
    · intro a ha e
      show (S a && !T' a) = (S a && !T a)
      rw [hT2 a ha e]
  · intro a b ha hb sa ta tb
    have eb : b ≠ h := by intro e; subst e; rw [hT] at tb; cases tb
    rw [hT2 b hb eb] at tb
    by_cases e : a = h
    · subst e; exact b3 b hb tb eb
    · rw [hT2 a ha e] at ta
      exact a3 a b ha hb sa ta tb
theorem hv_Sel_ne {S T : Nat → Bool} {w : Nat → Nat} {j : Nat} (A : hv_Sel S T w j) (hj : j < hv_cn S 16) : ∃ a, a < 16 ∧ T a = true := by
  apply Classical.byContradiction
  intro hn
  have : hv_cn (fun a => S a && !T a) 16 = hv_cn S 16 := by
    refine hv_cn_c 16 (fun a ha => ?_)
    have : T a = false := by
      cases z : T a
      · rfl
      · exact absurd ⟨a, ha, z⟩ hn
    show (S a && !T a) = S a
    rw [this]; simp
  have := A.2.1
  omega
end
section
/-! ===== the relation ===== -/
def hv_ok (c e ro : Int32) (sz rf : Nat → Int32) : Prop :=
  (∃ n, 1 ≤ n ∧ n ≤ 16 ∧ c = nI n) ∧ (∀ j, bt e j = true → j < 16) ∧ (∀ j, bt ro j = true → bt e j = true) ∧ (∀ a, a < 16 → ∀ j, bt (rf a) j = true → bt e j = true) ∧ (∀ a, a < 16 → bt e a = false → rf a = 0) ∧ (∀ a, a < 16 → bt e a = true → ∃ w, 1 ≤ w ∧ w ≤ 100 ∧ sz a = nI w)
def i_Rel (_ : Nat) (u : SX) (v : SY) : Prop := ∃ (c e ro : Int32) (sz rf hd : Nat → Int32), u = (c, e, ro, sz, rf) ∧ v = (c, e, ro, sz, rf, hd) ∧ hv_ok c e ro sz rf
theorem i_up {k : Nat} {u : SX} {v : SY} (h : i_Rel k u v) : i_Rel (k + 3) u v := h
theorem hv_mk {c e ro : Int32} {sz rf : Nat → Int32} (k : Nat) (hd : Nat → Int32) (h : hv_ok c e ro sz rf) : i_Rel k (c, e, ro, sz, rf) (c, e, ro, sz, rf, hd) := ⟨c, e, ro, sz, rf, hd, rfl, rfl, h⟩
def hv_ex (s v : Int32) : Prop := ∃ x, x < 16 ∧ v = nI x ∧ bt s x = true
theorem hv_nex {s : Int32} {x : Nat} (hx : x < 16) (h : ¬ hv_ex s (nI x)) : bt s x = false := by
  cases z : bt s x
  · rfl
  · exact absurd ⟨x, hx, rfl, z⟩ h
theorem hv_me {e s g m : Int32} (hs : ∀ j, bt s j = true → bt e j = true) (hm : ∀ j, j < 32 → bt e j = true → bt m j = !bt g j) : s &&& (g ^^^ (-1)) = s &&& m := by
  apply b_ext
  intro j hj
  rw [b_and, b_and, hv_not g hj]
  cases z : bt s j
  · rfl
  · rw [hm j hj (hs j z)]
theorem hv_oute {c e ro : Int32} {sz rf : Nat → Int32} (ok : hv_ok c e ro sz rf) {g m : Int32} (hm : ∀ j, j < 32 → bt e j = true → bt m j = !bt g j) : hv_out rf (g ^^^ (-1)) (ro &&& (g ^^^ (-1))) 16 = hv_out rf m (ro &&& m) 16 := by
  rw [hv_me ok.2.2.1 hm]
  exact hv_out_c _ (fun a ha => hv_me (ok.2.2.2.1 a ha) hm) 16
/-! ===== the component's walks ===== -/
theorem hx_t {post : Int32 → Prop} {s : Int32} {j : Nat} (hj : j < 16) (h : bt s j = true) (p : post 1) : wpX_has post s (nI j) := br_f (hv_gz (by omega) h) p
theorem hx_f {post : Int32 → Prop} {s : Int32} {j : Nat} (hj : j < 16) (h : bt s j = false) (p : post 0) : wpX_has post s (nI j) := br_t (hv_gf (by omega) h) p
theorem hx_in {post : Int32 → Prop} {J : Int32 → Int32 → Prop} {x1 x3 c e ro : Int32} {sz rf : Nat → Int32} (s : Int32) (hJ : J (hv_in rf (x1 ^^^ (-1)) s 16) (x3 + 1)) : ∀ d i, i + d = 16 → wX_reachedWithout_20 post J x1 x3 c e ro sz rf (d + 1) (hv_in rf (x1 ^^^ (-1)) s i) (nI i) := by
  intro d
  induction d with
  | zero =>
    intro i hi
    obtain rfl : i = 16 := by omega
    exact br_t hv_16e (nm_e hJ)
  | succ d ih =>
    intro i hi
    have h := ih (i + 1) (by omega)
    have hi' : i < 16 := by omega
    refine br_f (hv_16 hi') ?_
    cases z : bt (hv_in rf (x1 ^^^ (-1)) s i) i
    · rw [hv_in_f z] at h
      exact hx_f hi' z (br_t rfl (nm_r (nI_1 i) h))
    · rw [hv_in_t z] at h
      refine hx_t hi' z (br_f hv_10 ⟨hv_in16 hi', nm_r ?_ (nm_r (nI_1 i) h)⟩)
      rw [hv_cl hi']
theorem hx_out {post : Int32 → Prop} {x1 c e ro : Int32} {sz rf : Nat → Int32} (s : Int32) (hp : post (hv_out rf (x1 ^^^ (-1)) s 16)) : ∀ d k, k + d = 16 → wX_reachedWithout_11 post x1 c e ro sz rf (d + 1) (hv_out rf (x1 ^^^ (-1)) s k) (nI k) := by
  intro d
  induction d with
  | zero =>
    intro k hk
    obtain rfl : k = 16 := by omega
    exact br_t hv_16e hp
  | succ d ih =>
    intro k hk
    refine br_f (hv_16 (by omega)) ⟨17, hx_in (J := wX_reachedWithout_11 post x1 c e ro sz rf (d + 1)) (hv_out rf (x1 ^^^ (-1)) s k) ?_ 16 0 rfl⟩
    rw [nI_1]
    exact ih (k + 1) (by omega)
theorem hx_rw {post : Int32 → Prop} {c e ro : Int32} {sz rf : Nat → Int32} (g : Int32) (hp : post (hv_out rf (g ^^^ (-1)) (ro &&& (g ^^^ (-1))) 16)) : wpX_reachedWithout post (c, e, ro, sz, rf) g := nm_e ⟨17, hx_out _ hp 16 0 rfl⟩
theorem hx_L {post : Int32 → Prop} {c e ro : Int32} {sz rf : Nat → Int32} (ok : hv_ok c e ro sz rf) (hp : post (hv_L e ro rf)) : wpX_reachedWithout post (c, e, ro, sz, rf) 0 := by
  apply hx_rw
  rw [hv_oute ok (m := e) (fun j _ h => by rw [h, b_0]; rfl)]
  exact hp
theorem hx_Q {post : Int32 → Prop} {c e ro : Int32} {sz rf : Nat → Int32} (ok : hv_ok c e ro sz rf) {x : Nat} (hx : x < 16) (hp : post (hv_Q e ro rf x)) : wpX_reachedWithout post (c, e, ro, sz, rf) ((1 : Int32) <<< (nI x &&& 31)) := by
  apply hx_rw
  rw [hv_oute ok (m := hv_M e x) (fun j hj h => by rw [hv_Mb e (by omega) hj, h, hv_1 x (by omega) j hj]; rfl)]
  exact hp
theorem hx_ex1 {post : Int32 → Prop} {c e ro : Int32} {sz rf : Nat → Int32} {x : Nat} (hx : x < 16) (h : bt e x = true) (hp : post 1) : wpX_exists post (c, e, ro, sz, rf) (nI x) :=
  br_f (hv_neg hx) (br_f (hv_16 hx) (hx_t hx h (br_f hv_10 hp)))
theorem hx_ex0 {post : Int32 → Prop} {c e ro : Int32} {sz rf : Nat → Int32} {v : Int32} (h : ¬ hv_ex e v) (hp : post 0) : wpX_exists post (c, e, ro, sz, rf) v := by
  rcases pk_ix v (n := 16) (by decide) with g | g | ⟨x, hx, rfl⟩
  · exact br_t g hp
  · exact br_f (fun g' => absurd (Int32.lt_of_le_of_lt g g') (by decide)) (br_t g hp)
  · exact br_f (hv_neg hx) (br_f (hv_16 hx) (hx_f hx (hv_nex hx h) (br_t rfl hp)))
theorem hx_lv1 {post : Int32 → Prop} {c e ro : Int32} {sz rf : Nat → Int32} (ok : hv_ok c e ro sz rf) {x : Nat} (hx : x < 16) (h : bt (hv_L e ro rf) x = true) (hp : post 1) : wpX_isLive post (c, e, ro, sz, rf) (nI x) := by
  unfold wpX_isLive
  dsimp only
  exact hx_ex1 hx (hv_L_e h) (br_f hv_10 (hx_L ok (hx_t hx h ⟨rfl, hp⟩)))
theorem hx_lv0 {post : Int32 → Prop} {c e ro : Int32} {sz rf : Nat → Int32} (ok : hv_ok c e ro sz rf) {v : Int32} (h : ¬ hv_ex (hv_L e ro rf) v) (hp : post 0) : wpX_isLive post (c, e, ro, sz, rf) v := by
  unfold wpX_isLive
  dsimp only
  by_cases g : hv_ex e v
  · obtain ⟨x, hx, rfl, z⟩ := g
    exact hx_ex1 hx z (br_f hv_10 (hx_L ok (hx_f hx (hv_nex hx h) ⟨rfl, hp⟩)))
  · exact hx_ex0 g (br_t rfl hp)
theorem hx_K {post : Int32 → Prop} {c e ro : Int32} {sz rf : Nat → Int32} (ok : hv_ok c e ro sz rf) {x : Nat} (hx : x < 16) (hp : post (hv_K e ro rf x)) : wpX_keptBy post (c, e, ro, sz, rf) (nI x) := by
  unfold wpX_keptBy
  dsimp only
  exact hx_L ok (hx_Q ok hx hp)
def hv_D (e ro : Int32) (rf : Nat → Int32) (y : Nat) : Nat → Int32
  | 0 => 0
  | i + 1 => if bt (hv_K e ro rf i) y = true then hv_D e ro rf y i ||| ((1 : Int32) <<< (nI i &&& 31)) else hv_D e ro rf y i
theorem hv_D_t {e ro : Int32} {rf : Nat → Int32} {y i : Nat} (h : bt (hv_K e ro rf i) y = true) : hv_D e ro rf y (i + 1) = hv_D e ro rf y i ||| ((1 : Int32) <<< (nI i &&& 31)) := if_pos h
theorem hv_D_f {e ro : Int32} {rf : Nat → Int32} {y i : Nat} (h : bt (hv_K e ro rf i) y = false) : hv_D e ro rf y (i + 1) = hv_D e ro rf y i := if_neg (by rw [h]; decide)
theorem hv_Db (e ro : Int32) (rf : Nat → Int32) (y : Nat) : ∀ i, i ≤ 16 → ∀ a, a < 32 → bt (hv_D e ro rf y i) a = (decide (a < i) && bt (hv_K e ro rf a) y) := by
  intro i
  induction i with
  | zero => intro _ a _; exact b_0 a
  | succ i ih =>
    intro hi a ha
    have g := ih (by omega) a ha
    by_cases q : a = i
    · subst q
      rw [decide_eq_false (Nat.lt_irrefl a)] at g
      cases z : bt (hv_K e ro rf a) y
      · rw [hv_D_f z, g]; simp
      · rw [hv_D_t z, b_or, g, hv_1 a ha a ha]; simp
    · have q2 : decide (a < i + 1) = decide (a < i) := by by_cases w : a < i <;> simp [w] <;> omega
      rw [q2, ← g]
      cases z : bt (hv_K e ro rf i) y
      · rw [hv_D_f z]
      · rw [hv_D_t z, b_or, hv_1 i (by omega) a ha, decide_eq_false q, Bool.or_false]
theorem hx_D {post : Int32 → Prop} {c e ro : Int32} {sz rf : Nat → Int32} (ok : hv_ok c e ro sz rf) {y : Nat} (hy : y < 16) (hp : post (hv_D e ro rf y 16)) : wpX_dominatorsOf post (c, e, ro, sz, rf) (nI y) := by
  have key : ∀ d i, i + d = 16 → wX_dominatorsOf_4 post (nI y) c e ro sz rf (d + 1) (hv_D e ro rf y i) (nI i) := by
    intro d
    induction d with
    | zero =>
      intro i hi
      obtain rfl : i = 16 := by omega
      exact br_t hv_16e hp
    | succ d ih =>
      intro i hi
      have h := ih (i + 1) (by omega)
      have hi' : i < 16 := by omega
      refine br_f (hv_16 hi') (hx_K ok hi' ?_)
      cases z : bt (hv_K e ro rf i) y
      · rw [hv_D_f z] at h
        exact hx_f hy z (br_t rfl (nm_r (nI_1 i) h))
      · rw [hv_D_t z] at h
        exact hx_t hy z (br_f hv_10 (nm_e (nm_r (nI_1 i) h)))
  exact ⟨17, key 16 0 rfl⟩
def hv_pA (e ro : Int32) (rf : Nat → Int32) (s : Int32) (y : Nat) : Bool := bt s y && decide (s &&& (hv_D e ro rf y 16 ^^^ (-1)) = 0)
theorem hx_A {post : Int32 → Prop} {c e ro : Int32} {sz rf : Nat → Int32} (ok : hv_ok c e ro sz rf) (s : Int32) (hp : post (hv_fst (hv_pA e ro rf s) 16 0)) : wpX_dominatedByAll post (c, e, ro, sz, rf) s := by
  have key : ∀ d i, i + d = 16 → post (hv_fst (hv_pA e ro rf s) d i) → wX_dominatedByAll_2 post s c e ro sz rf (d + 1) (nI i) := by
    intro d
    induction d with
    | zero =>
      intro i hi hp
      obtain rfl : i = 16 := by omega
      exact br_t hv_16e hp
    | succ d ih =>
      intro i hi hp
      have hi' : i < 16 := by omega
      refine br_f (hv_16 hi') ?_
      cases z : bt s i
      · have g : hv_pA e ro rf s i = false := by unfold hv_pA; rw [z]; rfl
        rw [hv_fst_f g] at hp
        exact hx_f hi' z (br_t rfl (nm_r (nI_1 i) (ih (i + 1) (by omega) hp)))
      · refine hx_t hi' z (br_f hv_10 (hx_D ok hi' ?_))
        by_cases q : s &&& (hv_D e ro rf i 16 ^^^ (-1)) = 0
        · have g : hv_pA e ro rf s i = true := by unfold hv_pA; rw [z, decide_eq_true q]; rfl
          rw [hv_fst_t g] at hp
          exact br_t q hp
        · have g : hv_pA e ro rf s i = false := by unfold hv_pA; rw [z, decide_eq_false q]; rfl
          rw [hv_fst_f g] at hp
          exact br_f q (nm_r (nI_1 i) (ih (i + 1) (by omega) hp))
  exact ⟨17, key 16 0 rfl hp⟩
theorem hx_W {post : Int32 → Prop} {c e ro : Int32} {sz rf : Nat → Int32} (ok : hv_ok c e ro sz rf) {x : Nat} (hx : x < 16) (hp : post (hv_sum (hv_K e ro rf x) sz 16)) : wpX_sizeKeptBy post (c, e, ro, sz, rf) (nI x) := by
  have key : ∀ s, post (hv_sum s sz 16) → ∀ d i, i + d = 16 → wX_sizeKeptBy_11 post s c e ro sz rf (d + 1) (hv_sum s sz i) (nI i) := by
    intro s hp d
    induction d with
    | zero =>
      intro i hi
      obtain rfl : i = 16 := by omega
      exact br_t hv_16e hp
    | succ d ih =>
      intro i hi
      have h := ih (i + 1) (by omega)
      have hi' : i < 16 := by omega
      refine br_f (hv_16 hi') ?_
      cases z : bt s i
      · rw [hv_sum_f z] at h
        exact hx_f hi' z (br_t rfl (nm_r (nI_1 i) h))
      · rw [hv_sum_t z] at h
        refine hx_t hi' z (br_f hv_10 ⟨hv_in16 hi', nm_r ?_ (nm_r (nI_1 i) h)⟩)
        rw [hv_cl hi']
  unfold wpX_sizeKeptBy
  dsimp only
  exact hx_K ok hx ⟨17, key _ hp 16 0 rfl⟩
theorem hx_cn {post : Int32 → Prop} (s : Int32) (hp : post (nI (hv_cn (bt s) 16))) : wpX_countOf post s := by
  have key : ∀ d i, i + d = 16 → wX_countOf_4 post s (d + 1) (nI (hv_cn (bt s) i)) (nI i) := by
    intro d
    induction d with
    | zero =>
      intro i hi
      obtain rfl : i = 16 := by omega
      exact br_t hv_16e hp
    | succ d ih =>
      intro i hi
      have h := ih (i + 1) (by omega)
      have hi' : i < 16 := by omega
      refine br_f (hv_16 hi') ?_
      cases z : bt s i
      · rw [hv_cn_f z] at h
        exact hx_f hi' z (br_t rfl (nm_r (nI_1 i) h))
      · rw [hv_cn_t z] at h
        exact hx_t hi' z (br_f hv_10 (nm_r (nI_1 _) (nm_r (nI_1 i) h)))
  exact ⟨17, key 16 0 rfl⟩
end
section
/-! ===== the reference's walks ===== -/
theorem hy_in {post : Int32 → Prop} {J : Int32 → Int32 → Prop} {x1 x3 c e ro : Int32} {sz rf hd : Nat → Int32} (s : Int32) (hJ : J (hv_in rf x1 s 16) (x3 + 1)) : ∀ d i, i + d = 16 → wY_reached_18 post J x1 x3 c e ro sz rf hd (d + 1) (hv_in rf x1 s i) (nI i) := by
  intro d
  induction d with
  | zero =>
    intro i hi
    obtain rfl : i = 16 := by omega
    exact br_t hv_16e (nm_e hJ)
  | succ d ih =>
    intro i hi
    have h := ih (i + 1) (by omega)
    have hi' : i < 16 := by omega
    refine br_f (hv_16 hi') ?_
    cases z : bt (hv_in rf x1 s i) i
    · rw [hv_in_f z] at h
      exact br_f (hv_gn (by omega) z) (nm_r (nI_1 i) h)
    · rw [hv_in_t z] at h
      refine br_t (hv_gt (by omega) z) ⟨hv_in16 hi', nm_r ?_ (nm_r (nI_1 i) h)⟩
      rw [hv_cl hi']
theorem hy_out {post : Int32 → Prop} {x1 c e ro : Int32} {sz rf hd : Nat → Int32} (s : Int32) (hp : post (hv_out rf x1 s 16)) : ∀ d k, k + d = 16 → wY_reached_9 post x1 c e ro sz rf hd (d + 1) (hv_out rf x1 s k) (nI k) := by
  intro d
  induction d with
  | zero =>
    intro k hk
    obtain rfl : k = 16 := by omega
    exact br_t hv_16e hp
  | succ d ih =>
    intro k hk
    refine br_f (hv_16 (by omega)) ⟨17, hy_in (J := wY_reached_9 post x1 c e ro sz rf hd (d + 1)) (hv_out rf x1 s k) ?_ 16 0 rfl⟩
    rw [nI_1]
    exact ih (k + 1) (by omega)
theorem hy_r {post : Int32 → Prop} {c e ro : Int32} {sz rf hd : Nat → Int32} (m : Int32) (hp : post (hv_out rf m (ro &&& m) 16)) : wpY_reached post (c, e, ro, sz, rf, hd) m := nm_e ⟨17, hy_out _ hp 16 0 rfl⟩
theorem hy_L {post : Int32 → Prop} {c e ro : Int32} {sz rf hd : Nat → Int32} (hp : post (hv_L e ro rf)) : wpY_live post (c, e, ro, sz, rf, hd) := by
  unfold wpY_live
  dsimp only
  exact hy_r e hp
theorem hy_ex1 {post : Int32 → Prop} {c e ro : Int32} {sz rf hd : Nat → Int32} {x : Nat} (hx : x < 16) (h : bt e x = true) (hp : post 1) : wpY_is post (c, e, ro, sz, rf, hd) (nI x) :=
  br_f (hv_neg hx) (br_f (hv_16 hx) (br_t (hv_gt (by omega) h) hp))
theorem hy_ex0 {post : Int32 → Prop} {c e ro : Int32} {sz rf hd : Nat → Int32} {v : Int32} (h : ¬ hv_ex e v) (hp : post 0) : wpY_is post (c, e, ro, sz, rf, hd) v := by
  rcases pk_ix v (n := 16) (by decide) with g | g | ⟨x, hx, rfl⟩
  · exact br_t g hp
  · exact br_f (fun g' => absurd (Int32.lt_of_le_of_lt g g') (by decide)) (br_t g hp)
  · exact br_f (hv_neg hx) (br_f (hv_16 hx) (br_f (hv_gn (by omega) (hv_nex hx h)) hp))
theorem hy_lv1 {post : Int32 → Prop} {c e ro : Int32} {sz rf hd : Nat → Int32} {x : Nat} (hx : x < 16) (h : bt (hv_L e ro rf) x = true) (hp : post 1) : wpY_isLive post (c, e, ro, sz, rf, hd) (nI x) := by
  unfold wpY_isLive
  dsimp only
  exact hy_L (hy_ex1 hx (hv_L_e h) (br_f hv_10 (br_t (hv_gt (by omega) h) hp)))
theorem hy_lv0 {post : Int32 → Prop} {c e ro : Int32} {sz rf hd : Nat → Int32} {v : Int32} (h : ¬ hv_ex (hv_L e ro rf) v) (hp : post 0) : wpY_isLive post (c, e, ro, sz, rf, hd) v := by
  unfold wpY_isLive
  dsimp only
  refine hy_L ?_
  by_cases g : hv_ex e v
  · obtain ⟨x, hx, rfl, z⟩ := g
    exact hy_ex1 hx z (br_f hv_10 (br_f (hv_gn (by omega) (hv_nex hx h)) hp))
  · exact hy_ex0 g (br_t rfl hp)
theorem hy_K0 {post : Int32 → Prop} {c e ro : Int32} {sz rf hd : Nat → Int32} {v : Int32} (h : ¬ hv_ex (hv_L e ro rf) v) (hp : post 0) : wpY_kept post (c, e, ro, sz, rf, hd) v := by
  unfold wpY_kept
  dsimp only
  exact hy_lv0 h (br_t rfl hp)
theorem hy_K {post : Int32 → Prop} {c e ro : Int32} {sz rf hd : Nat → Int32} {x : Nat} (hx : x < 16) (hp : post (hv_K e ro rf x)) : wpY_kept post (c, e, ro, sz, rf, hd) (nI x) := by
  cases z : bt (hv_L e ro rf) x
  · rw [hv_K_dead (by omega) z] at hp
    refine hy_K0 ?_ hp
    intro ⟨y, hy, g1, g2⟩
    rw [nI_eq (by omega) (by omega)] at g1
    subst g1
    rw [z] at g2
    cases g2
  · unfold wpY_kept
    dsimp only
    exact hy_lv1 hx z (br_f hv_10 (hy_L (hy_r _ hp)))
theorem hy_dm {post : Int32 → Prop} {c e ro : Int32} {sz rf hd : Nat → Int32} {a x : Nat} (ha : a < 16) (hx : x < 16) (hp : post (hv_b (bt (hv_K e ro rf a) x))) : wpY_dominates post (c, e, ro, sz, rf, hd) (nI a) (nI x) := by
  unfold wpY_dominates
  dsimp only
  refine hy_K ha ?_
  cases z : bt (hv_K e ro rf a) x
  · rw [z] at hp
    by_cases g : hv_ex e (nI x)
    · obtain ⟨y, hy, g1, g2⟩ := g
      rw [nI_eq (by omega) (by omega)] at g1
      subst g1
      exact hy_ex1 hx g2 (br_f hv_10 (br_f (hv_gn (by omega) z) hp))
    · exact hy_ex0 g (br_t rfl hp)
  · rw [z] at hp
    exact hy_ex1 hx (hv_L_e (hv_K_L z)) (br_f hv_10 (br_t (hv_gt (by omega) z) hp))
theorem hy_dm0 {post : Int32 → Prop} {c e ro : Int32} {sz rf hd : Nat → Int32} {v w : Int32} (h : ¬ hv_ex (hv_L e ro rf) v) (hp : post 0) : wpY_dominates post (c, e, ro, sz, rf, hd) v w := by
  unfold wpY_dominates
  dsimp only
  refine hy_K0 h ?_
  by_cases g : hv_ex e w
  · obtain ⟨x, hx, rfl, z⟩ := g
    exact hy_ex1 hx z (br_f hv_10 (br_f (hv_gn (by omega) (b_0 x)) hp))
  · exact hy_ex0 g (br_t rfl hp)
theorem hy_dm1 {post : Int32 → Prop} {c e ro : Int32} {sz rf hd : Nat → Int32} {a : Nat} {w : Int32} (ha : a < 16) (h : ¬ hv_ex (hv_L e ro rf) w) (hp : post 0) : wpY_dominates post (c, e, ro, sz, rf, hd) (nI a) w := by
  unfold wpY_dominates
  dsimp only
  refine hy_K ha ?_
  by_cases g : hv_ex e w
  · obtain ⟨x, hx, rfl, z⟩ := g
    have z2 : bt (hv_K e ro rf a) x = false := by
      cases z3 : bt (hv_K e ro rf a) x
      · rfl
      · exact absurd ⟨x, hx, rfl, hv_K_L z3⟩ h
    exact hy_ex1 hx z (br_f hv_10 (br_f (hv_gn (by omega) z2) hp))
  · exact hy_ex0 g (br_t rfl hp)
def hv_q (e ro : Int32) (rf : Nat → Int32) (x y : Nat) (sk : Int32) (k a : Nat) : Bool := !(!decide (nI a = sk) && (bt (hv_K e ro rf a) x && bt (hv_K e ro rf a) y)) || bt (hv_K e ro rf a) k
theorem hy_all {post : Int32 → Prop} {c e ro : Int32} {sz rf hd : Nat → Int32} {x y k : Nat} {sk : Int32} (hx : x < 16) (hy : y < 16) (hk : k < 16) (hp : post (hv_b (hv_all (hv_q e ro rf x y sk k) 16))) : wpY_allDominate post (c, e, ro, sz, rf, hd) (nI x) (nI y) sk (nI k) := by
  have key : ∀ d i, i + d = 16 → wY_allDominate_6 post (nI x) (nI y) sk (nI k) c e ro sz rf hd (d + 1) (hv_b (hv_all (hv_q e ro rf x y sk k) i)) (nI i) := by
    intro d
    induction d with
    | zero =>
      intro i hi
      obtain rfl : i = 16 := by omega
      exact br_t hv_16e ⟨hv_bn _, hp⟩
    | succ d ih =>
      intro i hi
      have h := ih (i + 1) (by omega)
      have hi' : i < 16 := by omega
      have hs : hv_all (hv_q e ro rf x y sk k) (i + 1) = (hv_all (hv_q e ro rf x y sk k) i && hv_q e ro rf x y sk k i) := rfl
      rw [hs] at h
      refine br_f (hv_16 hi') ?_
      by_cases q0 : nI i = sk
      · have hq : hv_q e ro rf x y sk k i = true := by unfold hv_q; rw [decide_eq_true q0]; rfl
        rw [hq, Bool.and_true] at h
        exact br_t q0 (nm_r (nI_1 i) h)
      · refine br_f q0 (hy_dm hi' hx ?_)
        cases z1 : bt (hv_K e ro rf i) x
        · have hq : hv_q e ro rf x y sk k i = true := by unfold hv_q; rw [decide_eq_false q0, z1]; rfl
          rw [hq, Bool.and_true] at h
          exact br_t rfl (nm_r (nI_1 i) h)
        · refine br_f hv_10 (hy_dm hi' hy ?_)
          cases z2 : bt (hv_K e ro rf i) y
          · have hq : hv_q e ro rf x y sk k i = true := by unfold hv_q; rw [decide_eq_false q0, z1, z2]; rfl
            rw [hq, Bool.and_true] at h
            exact br_t rfl (nm_r (nI_1 i) h)
          · refine br_f hv_10 ?_
            have hq : hv_q e ro rf x y sk k i = bt (hv_K e ro rf i) k := by unfold hv_q; rw [decide_eq_false q0, z1, z2]; rfl
            rw [hq] at h
            cases z3 : hv_all (hv_q e ro rf x y sk k) i
            · rw [z3] at h
              exact br_t rfl (nm_r (nI_1 i) h)
            · rw [z3] at h
              refine br_f hv_10 (hy_dm hi' hk ?_)
              cases z4 : bt (hv_K e ro rf i) k
              · rw [z4] at h
                exact br_t rfl (nm_r (nI_1 i) h)
              · rw [z4] at h
                exact br_f hv_10 (nm_r (nI_1 i) h)
  exact ⟨17, key 16 0 rfl⟩
def hv_pK (e ro : Int32) (rf : Nat → Int32) (x a : Nat) : Bool := !decide (a = x) && (bt (hv_K e ro rf a) x && hv_all (hv_q e ro rf x x (nI x) a) 16)
theorem hy_keeper {post : Int32 → Prop} {c e ro : Int32} {sz rf hd : Nat → Int32} {x : Nat} (hx : x < 16) (h : bt (hv_L e ro rf) x = true) (hp : post (hv_fst (hv_pK e ro rf x) 16 0)) : wpY_keeper post (c, e, ro, sz, rf, hd) (nI x) := by
  have key : ∀ d i, i + d = 16 → post (hv_fst (hv_pK e ro rf x) d i) → wY_keeper_13 post (nI x) c e ro sz rf hd (d + 1) (nI i) := by
    intro d
    induction d with
    | zero =>
      intro i hi hp
      obtain rfl : i = 16 := by omega
      exact br_t hv_16e hp
    | succ d ih =>
      intro i hi hp
      have hi' : i < 16 := by omega
      refine br_f (hv_16 hi') ?_
      by_cases q0 : i = x
      · have g : hv_pK e ro rf x i = false := by unfold hv_pK; rw [decide_eq_true q0]; rfl
        rw [hv_fst_f g] at hp
        exact br_t (by rw [q0]) (nm_r (nI_1 i) (ih (i + 1) (by omega) hp))
      · refine br_f (by rw [nI_eq (by omega) (by omega)]; exact q0) (hy_dm hi' hx ?_)
        cases z1 : bt (hv_K e ro rf i) x
        · have g : hv_pK e ro rf x i = false := by unfold hv_pK; rw [decide_eq_false q0, z1]; rfl
          rw [hv_fst_f g] at hp
          exact br_t rfl (nm_r (nI_1 i) (ih (i + 1) (by omega) hp))
        · refine br_f hv_10 (hy_all hx hx hi' ?_)
          have g0 : hv_pK e ro rf x i = hv_all (hv_q e ro rf x x (nI x) i) 16 := by unfold hv_pK; rw [decide_eq_false q0, z1]; rfl
          cases z2 : hv_all (hv_q e ro rf x x (nI x) i) 16
          · rw [z2] at g0
            rw [hv_fst_f g0] at hp
            exact br_t rfl (nm_r (nI_1 i) (ih (i + 1) (by omega) hp))
          · rw [z2] at g0
            rw [hv_fst_t g0] at hp
            exact br_f hv_10 hp
  unfold wpY_keeper
  dsimp only
  exact hy_lv1 hx h (br_f hv_10 ⟨17, key 16 0 rfl hp⟩)
def hv_pC (e ro : Int32) (rf : Nat → Int32) (x y a : Nat) : Bool := bt (hv_K e ro rf a) x && (bt (hv_K e ro rf a) y && hv_all (hv_q e ro rf x y (-1) a) 16)
theorem hy_common {post : Int32 → Prop} {c e ro : Int32} {sz rf hd : Nat → Int32} {x y : Nat} (hx : x < 16) (hy : y < 16) (h : bt (hv_L e ro rf) x = true) (h' : bt (hv_L e ro rf) y = true) (hp : post (hv_fst (hv_pC e ro rf x y) 16 0)) : wpY_common post (c, e, ro, sz, rf, hd) (nI x) (nI y) := by
  have key : ∀ d i, i + d = 16 → post (hv_fst (hv_pC e ro rf x y) d i) → wY_common_21 post (nI x) (nI y) c e ro sz rf hd (d + 1) (nI i) := by
    intro d
    induction d with
    | zero =>
      intro i hi hp
      obtain rfl : i = 16 := by omega
      exact br_t hv_16e hp
    | succ d ih =>
      intro i hi hp
      have hi' : i < 16 := by omega
      refine br_f (hv_16 hi') (hy_dm hi' hx ?_)
      cases z0 : bt (hv_K e ro rf i) x
      · have g : hv_pC e ro rf x y i = false := by unfold hv_pC; rw [z0]; rfl
        rw [hv_fst_f g] at hp
        exact br_t rfl (nm_r (nI_1 i) (ih (i + 1) (by omega) hp))
      · refine br_f hv_10 (hy_dm hi' hy ?_)
        cases z1 : bt (hv_K e ro rf i) y
        · have g : hv_pC e ro rf x y i = false := by unfold hv_pC; rw [z0, z1]; rfl
          rw [hv_fst_f g] at hp
          exact br_t rfl (nm_r (nI_1 i) (ih (i + 1) (by omega) hp))
        · refine br_f hv_10 (hy_all hx hy hi' ?_)
          have g0 : hv_pC e ro rf x y i = hv_all (hv_q e ro rf x y (-1) i) 16 := by unfold hv_pC; rw [z0, z1]; rfl
          cases z2 : hv_all (hv_q e ro rf x y (-1) i) 16
          · rw [z2] at g0
            rw [hv_fst_f g0] at hp
            exact br_t rfl (nm_r (nI_1 i) (ih (i + 1) (by omega) hp))
          · rw [z2] at g0
            rw [hv_fst_t g0] at hp
            exact br_f hv_10 hp
  unfold wpY_common
  dsimp only
  exact hy_lv1 hx h (br_f hv_10 (hy_lv1 hy h' (br_f hv_10 ⟨17, key 16 0 rfl hp⟩)))
theorem hy_Ws {post : Int32 → Prop} {c e ro : Int32} {sz rf hd : Nat → Int32} (s : Int32) (hp : post (hv_sum s sz 16)) : ∀ d i, i + d = 16 → wY_retained_11 post s c e ro sz rf hd (d + 1) (hv_sum s sz i) (nI i) := by
  intro d
  induction d with
  | zero =>
    intro i hi
    obtain rfl : i = 16 := by omega
    exact br_t hv_16e hp
  | succ d ih =>
    intro i hi
    have h := ih (i + 1) (by omega)
    have hi' : i < 16 := by omega
    refine br_f (hv_16 hi') ?_
    cases z : bt s i
    · rw [hv_sum_f z] at h
      exact br_f (hv_gn (by omega) z) (nm_r (Int32.add_zero _) (nm_r (nI_1 i) h))
    · rw [hv_sum_t z] at h
      refine br_t (hv_gt (by omega) z) ⟨hv_in16 hi', nm_r ?_ (nm_r (nI_1 i) h)⟩
      rw [hv_cl hi']
theorem hy_W {post : Int32 → Prop} {c e ro : Int32} {sz rf hd : Nat → Int32} {x : Nat} (hx : x < 16) (hp : post (hv_sum (hv_K e ro rf x) sz 16)) : wpY_retained post (c, e, ro, sz, rf, hd) (nI x) := by
  unfold wpY_retained
  dsimp only
  exact hy_K hx ⟨17, hy_Ws _ hp 16 0 rfl⟩
theorem hy_W0 {post : Int32 → Prop} {c e ro : Int32} {sz rf hd : Nat → Int32} {v : Int32} (h : ¬ hv_ex (hv_L e ro rf) v) (hp : post 0) : wpY_retained post (c, e, ro, sz, rf, hd) v := by
  unfold wpY_retained
  dsimp only
  exact hy_K0 h ⟨17, hy_Ws 0 (by rw [hv_sum_0]; exact hp) 16 0 rfl⟩
def hv_pD (e ro : Int32) (rf : Nat → Int32) (x a : Nat) : Bool := !decide (a = x) && bt (hv_K e ro rf a) x
theorem hy_depth {post : Int32 → Prop} {c e ro : Int32} {sz rf hd : Nat → Int32} {x : Nat} (hx : x < 16) (h : bt (hv_L e ro rf) x = true) (hp : post (nI (hv_cn (hv_pD e ro rf x) 16))) : wpY_depth post (c, e, ro, sz, rf, hd) (nI x) := by
  have key : ∀ d i, i + d = 16 → wY_depth_15 post (nI x) c e ro sz rf hd (d + 1) (nI (hv_cn (hv_pD e ro rf x) i)) (nI i) := by
    intro d
    induction d with
    | zero =>
      intro i hi
      obtain rfl : i = 16 := by omega
      exact br_t hv_16e hp
    | succ d ih =>
      intro i hi
      have h := ih (i + 1) (by omega)
      have hi' : i < 16 := by omega
      refine br_f (hv_16 hi') ?_
      by_cases q0 : i = x
      · have g : hv_pD e ro rf x i = false := by unfold hv_pD; rw [decide_eq_true q0]; rfl
        rw [hv_cn_f g] at h
        exact br_t (by rw [q0]) (nm_r (Int32.add_zero _) (nm_r (nI_1 i) h))
      · refine br_f (by rw [nI_eq (by omega) (by omega)]; exact q0) (hy_dm hi' hx ?_)
        have g : hv_pD e ro rf x i = bt (hv_K e ro rf i) x := by unfold hv_pD; rw [decide_eq_false q0]; rfl
        cases z1 : bt (hv_K e ro rf i) x
        · rw [z1] at g
          rw [hv_cn_f g] at h
          exact br_t rfl (nm_r (Int32.add_zero _) (nm_r (nI_1 i) h))
        · rw [z1] at g
          rw [hv_cn_t g] at h
          exact br_f hv_10 (nm_r (nI_1 _) (nm_r (nI_1 i) h))
  unfold wpY_depth
  dsimp only
  exact hy_lv1 hx h (br_f hv_10 ⟨17, key 16 0 rfl⟩)
end
section
/-! ===== the calls that only read ===== -/
theorem hv_dec {e ro : Int32} {rf : Nat → Int32} {s : Int32} {k : Nat} {q : Nat → Bool} (hs : ∀ j, bt s j = true → j < 16) (hq : ∀ j, j < 16 → q j = (!bt s j || bt (hv_K e ro rf j) k)) : decide (s &&& (hv_D e ro rf k 16 ^^^ (-1)) = 0) = hv_all q 16 := by
  rw [Bool.eq_iff_iff, decide_eq_true_iff, hv_all_i]
  constructor
  · intro h a ha
    have g : bt (s &&& (hv_D e ro rf k 16 ^^^ (-1))) a = false := by rw [h]; exact b_0 a
    rw [b_and, hv_not _ (by omega), hv_Db e ro rf k 16 (Nat.le_refl _) a (by omega), decide_eq_true ha] at g
    rw [hq a ha]
    revert g
    cases bt s a <;> cases bt (hv_K e ro rf a) k <;> decide
  · intro h
    apply b_ext
    intro j hj
    rw [b_and, hv_not _ hj, b_0]
    cases z : bt s j
    · rfl
    · have hj16 := hs j z
      have g := h j hj16
      rw [hq j hj16, z] at g
      rw [hv_Db e ro rf k 16 (Nat.le_refl _) j hj, decide_eq_true hj16]
      revert g
      cases bt (hv_K e ro rf j) k <;> decide
theorem hv_others {e ro : Int32} {rf : Nat → Int32} {x j : Nat} (hx : x < 16) (hj : j < 32) : bt (hv_D e ro rf x 16 &&& (((1 : Int32) <<< (nI x &&& 31)) ^^^ (-1))) j = ((decide (j < 16) && bt (hv_K e ro rf j) x) && !decide (j = x)) := by
  rw [b_and, hv_not _ hj, hv_1 x (by omega) j hj, hv_Db e ro rf x 16 (Nat.le_refl _) j hj]
theorem hv_keep {e ro : Int32} {rf : Nat → Int32} {x : Nat} (hx : x < 16) : hv_fst (hv_pA e ro rf (hv_D e ro rf x 16 &&& (((1 : Int32) <<< (nI x &&& 31)) ^^^ (-1)))) 16 0 = hv_fst (hv_pK e ro rf x) 16 0 := by
  apply hv_fst_c
  intro k _ hk
  have hk : k < 16 := by omega
  unfold hv_pA hv_pK
  rw [hv_dec (q := hv_q e ro rf x x (nI x) k) ?_ ?_, hv_others hx (by omega), decide_eq_true hk]
  · cases bt (hv_K e ro rf k) x <;> cases decide (k = x) <;> simp
  · intro j h
    have hj := hv_lt32 h
    rw [hv_others hx hj] at h
    by_cases g : j < 16
    · exact g
    · rw [decide_eq_false g] at h; simp at h
  · intro j hj
    have e1 : decide (nI j = nI x) = decide (j = x) := by rw [decide_eq_decide]; exact nI_eq (by omega) (by omega)
    unfold hv_q
    rw [hv_others hx (by omega), decide_eq_true hj, e1]
    cases bt (hv_K e ro rf j) x <;> cases decide (j = x) <;> simp
theorem hv_comm {e ro : Int32} {rf : Nat → Int32} {x y : Nat} : hv_fst (hv_pA e ro rf (hv_D e ro rf x 16 &&& hv_D e ro rf y 16)) 16 0 = hv_fst (hv_pC e ro rf x y) 16 0 := by
  have hb : ∀ j, j < 32 → bt (hv_D e ro rf x 16 &&& hv_D e ro rf y 16) j = (decide (j < 16) && (bt (hv_K e ro rf j) x && bt (hv_K e ro rf j) y)) := by
    intro j hj
    rw [b_and, hv_Db e ro rf x 16 (Nat.le_refl _) j hj, hv_Db e ro rf y 16 (Nat.le_refl _) j hj]
    cases decide (j < 16) <;> cases bt (hv_K e ro rf j) x <;> cases bt (hv_K e ro rf j) y <;> rfl
  apply hv_fst_c
  intro k _ hk
  have hk : k < 16 := by omega
  unfold hv_pA hv_pC
  rw [hv_dec (q := hv_q e ro rf x y (-1) k) ?_ ?_, hb k (by omega), decide_eq_true hk]
  · cases bt (hv_K e ro rf k) x <;> cases bt (hv_K e ro rf k) y <;> simp
  · intro j h
    have hj := hv_lt32 h
    rw [hb j hj] at h
    by_cases g : j < 16
    · exact g
    · rw [decide_eq_false g] at h; simp at h
  · intro j hj
    have e1 : decide (nI j = -1) = false := by
      apply decide_eq_false
      intro g
      exact hv_neg hj (by rw [g]; decide)
    unfold hv_q
    rw [hb j (by omega), decide_eq_true hj, e1]
    cases bt (hv_K e ro rf j) x <;> cases bt (hv_K e ro rf j) y <;> simp
theorem i_vc0 (k0 : Int32) : wpX_init (fun u => wpY_init (fun v => i_Rel 1 u v) k0) k0 := by
  have ok : ∀ n, 1 ≤ n → n ≤ 16 → hv_ok (nI n) 0 0 (fun _ => 0) (fun _ => 0) := by
    intro n h1 h2
    refine ⟨⟨n, h1, h2, rfl⟩, ?_, ?_, ?_, fun _ _ _ => rfl, ?_⟩
    · intro j h; rw [b_0] at h; cases h
    · intro j h; exact h
    · intro a _ j h; exact h
    · intro a _ h; rw [b_0] at h; cases h
  by_cases h1 : 1 ≤ k0
  · by_cases h2 : k0 ≤ 16
    · have h0 : ¬ k0 < 0 := fun g => absurd (Int32.lt_of_le_of_lt h1 g) (by decide)
      obtain ⟨n, hn, rfl⟩ := nI_of h0
      have g1 : 1 ≤ n := (nI_leI (a := 1) (b := n) (by decide) hn).mp h1
      have g2 : n ≤ 16 := (nI_leI (a := n) (b := 16) hn (by decide)).mp h2
      exact br_t h1 (br_t h2 (br_t h1 (br_t h2 (hv_mk 1 _ (ok n g1 g2)))))
    · exact br_t h1 (br_f h2 (br_t h1 (br_f h2 (hv_mk 1 _ (ok 16 (by decide) (by decide))))))
  · exact br_f h1 (br_f h1 (hv_mk 1 _ (ok 1 (by decide) (by decide))))
theorem i_vc_objects {k : Nat} {u : SX} {v : SY} (I : i_Rel k u v) (hk : k + 3 ≤ 1537) : wpX_objects (fun r => wpY_objects (fun r' => r' = r ∧ i_Rel (k + 3) u v) v) u := by
  obtain ⟨c, e, ro, sz, rf, hd, rfl, rfl, ok⟩ := I
  exact ⟨rfl, hv_mk _ _ ok⟩
theorem i_vc_live {k : Nat} {u : SX} {v : SY} (I : i_Rel k u v) (hk : k + 3 ≤ 1537) : wpX_live (fun r => wpY_live (fun r' => r' = r ∧ i_Rel (k + 3) u v) v) u := by
  obtain ⟨c, e, ro, sz, rf, hd, rfl, rfl, ok⟩ := I
  unfold wpX_live
  dsimp only
  exact hx_L ok (hy_L ⟨rfl, hv_mk _ _ ok⟩)
theorem i_vc_keeper {k : Nat} {u : SX} {v : SY} (I : i_Rel k u v) (hk : k + 3 ≤ 1537) (v1 : Int32) : wpX_keeper (fun r => wpY_keeper (fun r' => r' = r ∧ i_Rel (k + 3) u v) v v1) u v1 := by
  obtain ⟨c, e, ro, sz, rf, hd, rfl, rfl, ok⟩ := I
  by_cases g : hv_ex (hv_L e ro rf) v1
  · obtain ⟨x, hx, rfl, z⟩ := g
    unfold wpX_keeper
    dsimp only
    refine hx_lv1 ok hx z (br_f hv_10 (hx_D ok hx (nm_e (hx_A ok _ ?_))))
    exact hy_keeper hx z ⟨(hv_keep hx).symm, hv_mk _ _ ok⟩
  · unfold wpX_keeper wpY_keeper
    dsimp only
    exact hx_lv0 ok g (br_t rfl (hy_lv0 g (br_t rfl ⟨rfl, hv_mk _ _ ok⟩)))
theorem i_vc_dominates {k : Nat} {u : SX} {v : SY} (I : i_Rel k u v) (hk : k + 3 ≤ 1537) (v1 : Int32) (v2 : Int32) : wpX_dominates (fun r => wpY_dominates (fun r' => r' = r ∧ i_Rel (k + 3) u v) v v1 v2) u v1 v2 := by
  obtain ⟨c, e, ro, sz, rf, hd, rfl, rfl, ok⟩ := I
  unfold wpX_dominates
  dsimp only
  by_cases g : hv_ex (hv_L e ro rf) v1
  · obtain ⟨a, ha, rfl, z⟩ := g
    refine hx_lv1 ok ha z (br_f hv_10 ?_)
    by_cases g2 : hv_ex (hv_L e ro rf) v2
    · obtain ⟨x, hx, rfl, z2⟩ := g2
      refine hx_lv1 ok hx z2 (br_f hv_10 (hx_K ok ha ?_))
      cases z3 : bt (hv_K e ro rf a) x
      · exact hx_f hx z3 ⟨rfl, hy_dm ha hx ⟨by rw [z3]; rfl, hv_mk _ _ ok⟩⟩
      · exact hx_t hx z3 ⟨rfl, hy_dm ha hx ⟨by rw [z3]; rfl, hv_mk _ _ ok⟩⟩
    · exact hx_lv0 ok g2 (br_t rfl (hy_dm1 ha g2 ⟨rfl, hv_mk _ _ ok⟩))
  · exact hx_lv0 ok g (br_t rfl (hy_dm0 g ⟨rfl, hv_mk _ _ ok⟩))
theorem i_vc_kept {k : Nat} {u : SX} {v : SY} (I : i_Rel k u v) (hk : k + 3 ≤ 1537) (v1 : Int32) : wpX_kept (fun r => wpY_kept (fun r' => r' = r ∧ i_Rel (k + 3) u v) v v1) u v1 := by
  obtain ⟨c, e, ro, sz, rf, hd, rfl, rfl, ok⟩ := I
  unfold wpX_kept
  dsimp only
  by_cases g : hv_ex (hv_L e ro rf) v1
  · obtain ⟨x, hx, rfl, z⟩ := g
    exact hx_lv1 ok hx z (br_f hv_10 (hx_K ok hx (hy_K hx ⟨rfl, hv_mk _ _ ok⟩)))
  · exact hx_lv0 ok g (br_t rfl (hy_K0 g ⟨rfl, hv_mk _ _ ok⟩))
theorem i_vc_retained {k : Nat} {u : SX} {v : SY} (I : i_Rel k u v) (hk : k + 3 ≤ 1537) (v1 : Int32) : wpX_retained (fun r => wpY_retained (fun r' => r' = r ∧ i_Rel (k + 3) u v) v v1) u v1 := by
  obtain ⟨c, e, ro, sz, rf, hd, rfl, rfl, ok⟩ := I
  unfold wpX_retained
  dsimp only
  by_cases g : hv_ex (hv_L e ro rf) v1
  · obtain ⟨x, hx, rfl, z⟩ := g
    exact hx_lv1 ok hx z (br_f hv_10 (hx_W ok hx (hy_W hx ⟨rfl, hv_mk _ _ ok⟩)))
  · exact hx_lv0 ok g (br_t rfl (hy_W0 g ⟨rfl, hv_mk _ _ ok⟩))
theorem i_vc_depth {k : Nat} {u : SX} {v : SY} (I : i_Rel k u v) (hk : k + 3 ≤ 1537) (v1 : Int32) : wpX_depth (fun r => wpY_depth (fun r' => r' = r ∧ i_Rel (k + 3) u v) v v1) u v1 := by
  obtain ⟨c, e, ro, sz, rf, hd, rfl, rfl, ok⟩ := I
  by_cases g : hv_ex (hv_L e ro rf) v1
  · obtain ⟨x, hx, rfl, z⟩ := g
    unfold wpX_depth
    dsimp only
    refine hx_lv1 ok hx z (br_f hv_10 (hx_D ok hx (nm_e (hx_cn _ ?_))))
    refine hy_depth hx z ⟨?_, hv_mk _ _ ok⟩
    apply congrArg nI
    apply hv_cn_c
    intro a ha
    rw [hv_others hx (by omega), decide_eq_true ha]
    unfold hv_pD
    cases bt (hv_K e ro rf a) x <;> cases decide (a = x) <;> rfl
  · unfold wpX_depth wpY_depth
    dsimp only
    exact hx_lv0 ok g (br_t rfl (hy_lv0 g (br_t rfl ⟨rfl, hv_mk _ _ ok⟩)))
theorem i_vc_common {k : Nat} {u : SX} {v : SY} (I : i_Rel k u v) (hk : k + 3 ≤ 1537) (v1 : Int32) (v2 : Int32) : wpX_common (fun r => wpY_common (fun r' => r' = r ∧ i_Rel (k + 3) u v) v v1 v2) u v1 v2 := by
  obtain ⟨c, e, ro, sz, rf, hd, rfl, rfl, ok⟩ := I
  by_cases g : hv_ex (hv_L e ro rf) v1
  · obtain ⟨x, hx, rfl, z⟩ := g
    by_cases g2 : hv_ex (hv_L e ro rf) v2
    · obtain ⟨y, hy, rfl, z2⟩ := g2
      unfold wpX_common
      dsimp only
      refine hx_lv1 ok hx z (br_f hv_10 (hx_lv1 ok hy z2 (br_f hv_10 (hx_D ok hx (hx_D ok hy (nm_e (hx_A ok _ ?_)))))))
      exact hy_common hx hy z z2 ⟨hv_comm.symm, hv_mk _ _ ok⟩
    · unfold wpX_common wpY_common
      dsimp only
      exact hx_lv1 ok hx z (br_f hv_10 (hx_lv0 ok g2 (br_t rfl (hy_lv1 hx z (br_f hv_10 (hy_lv0 g2 (br_t rfl ⟨rfl, hv_mk _ _ ok⟩)))))))
  · unfold wpX_common wpY_common
    dsimp only
    exact hx_lv0 ok g (br_t rfl (hy_lv0 g (br_t rfl ⟨rfl, hv_mk _ _ ok⟩)))
end
section
/-! ===== the calls that change the heap ===== -/
theorem hv_ok_ro {c e ro ro' : Int32} {sz rf : Nat → Int32} (ok : hv_ok c e ro sz rf) (h : ∀ j, bt ro' j = true → bt e j = true) : hv_ok c e ro' sz rf := ⟨ok.1, ok.2.1, h, ok.2.2.2⟩
theorem hv_ok_rf {c e ro : Int32} {sz rf : Nat → Int32} (ok : hv_ok c e ro sz rf) {a : Nat} {w : Int32} (ha : bt e a = true) (h : ∀ j, bt w j = true → bt e j = true) : hv_ok c e ro sz (upd rf a w) := by
  obtain ⟨o1, o2, o3, o4, o5, o6⟩ := ok
  refine ⟨o1, o2, o3, ?_, ?_, o6⟩
  · intro b hb j
    by_cases q : b = a
    · subst q; rw [pk_us]; exact h j
    · rw [pk_un q]; exact o4 b hb j
  · intro b hb z
    have q : b ≠ a := by intro q; subst q; rw [ha] at z; cases z
    rw [pk_un q]; exact o5 b hb z
theorem hv_or1 {s e : Int32} {x j : Nat} (hx : x < 32) (hs : bt s j = true → bt e j = true) (he : bt e x = true) (h : bt (s ||| ((1 : Int32) <<< (nI x &&& 31))) j = true) : bt e j = true := by
  have hj := hv_lt32 h
  rw [b_or, hv_1 x hx j hj] at h
  by_cases q : j = x
  · subst q; exact he
  · rw [decide_eq_false q, Bool.or_false] at h; exact hs h
theorem hv_an {s g : Int32} {j : Nat} (h : bt (s &&& g) j = true) : bt s j = true := by
  rw [b_and] at h
  exact (Bool.and_eq_true_iff.mp h).1
theorem hv_mkc {c e ro : Int32} {sz rf : Nat → Int32} (ok : hv_ok c e ro sz rf) {i w : Nat} (hi : i < 16) (h1 : 1 ≤ w) (h2 : w ≤ 100) : hv_ok c (e ||| ((1 : Int32) <<< (nI i &&& 31))) ro (upd sz i (nI w)) rf := by
  obtain ⟨o1, o2, o3, o4, o5, o6⟩ := ok
  have hu : ∀ j, bt e j = true → bt (e ||| ((1 : Int32) <<< (nI i &&& 31))) j = true := by
    intro j h; rw [b_or, h]; rfl
  refine ⟨o1, ?_, fun j h => hu j (o3 j h), fun a ha j h => hu j (o4 a ha j h), ?_, ?_⟩
  · intro j h
    have hj := hv_lt32 h
    rw [b_or, hv_1 i (by omega) j hj] at h
    by_cases q : j = i
    · omega
    · rw [decide_eq_false q, Bool.or_false] at h; exact o2 j h
  · intro a ha z
    refine o5 a ha ?_
    cases y : bt e a
    · rfl
    · rw [hu a y] at z; cases z
  · intro a ha z
    by_cases q : a = i
    · subst q; exact ⟨w, h1, h2, pk_us⟩
    · rw [pk_un q]
      refine o6 a ha ?_
      rw [b_or, hv_1 i (by omega) a (by omega), decide_eq_false q, Bool.or_false] at z
      exact z
theorem hv_make {k : Nat} {c e ro : Int32} {sz rf hd : Nat → Int32} (ok : hv_ok c e ro sz rf) {w n : Nat} (h1 : 1 ≤ w) (h2 : w ≤ 100) (hn : n ≤ 16) (hc : c = nI n) : ∀ d i, i + d = n → ∃ (r : Int32) (u' : SX) (v' : SY), i_Rel (k + 3) u' v' ∧ (∀ post : Int32 → SX → Prop, post r u' → wX_make_15 post (nI w) c e ro sz rf (d + 1) (nI i)) ∧ (∀ post : Int32 → SY → Prop, post r v' → wY_make_15 post (nI w) c e ro sz rf hd (d + 1) (nI i)) := by
  subst hc
  intro d
  induction d with
  | zero =>
    intro i hi
    have hle : nI n ≤ nI i := nI_le (by omega) (by omega)
    exact ⟨-1, _, _, hv_mk (k + 3) hd ok, fun post hp => br_t hle hp, fun post hp => br_t hle hp⟩
  | succ d ih =>
    intro i hi
    have hi' : i < 16 := by omega
    have hle : ¬ nI n ≤ nI i := nI_ge (by omega) (by omega)
    cases z : bt e i
    · have hne : ¬ hv_ex e (nI i) := by
        intro ⟨y, hy, g1, g2⟩
        rw [nI_eq (by omega) (by omega)] at g1
        subst g1
        rw [z] at g2
        cases g2
      have hz : upd rf i 0 = rf := by
        funext j
        by_cases q : j = i
        · subst q; rw [pk_us, ok.2.2.2.2.1 j hi' z]
        · rw [pk_un q]
      refine ⟨nI i, _, _, hv_mk (k + 3) hd (hv_mkc ok hi' h1 h2), fun post hp => ?_, fun post hp => ?_⟩
      · exact br_f hle (hx_f hi' z (br_t rfl (nm_e ⟨hv_in16 hi', nm_r (by rw [hv_cl hi']) hp⟩)))
      · exact br_f hle (br_f (hv_16 hi') (hy_ex0 hne (br_t rfl (nm_e ⟨hv_in16 hi', nm_r (by rw [hv_cl hi']) ⟨hv_in16 hi', nm_r (by rw [hv_cl hi', hz]) hp⟩⟩))))
    · obtain ⟨r, u', v', g1, g2, g3⟩ := ih (i + 1) (by omega)
      exact ⟨r, u', v', g1, fun post hp => br_f hle (hx_t hi' z (br_f hv_10 (nm_r (nI_1 i) (g2 post hp)))), fun post hp => br_f hle (br_f (hv_16 hi') (hy_ex1 hi' z (br_f hv_10 (nm_r (nI_1 i) (g3 post hp)))))⟩
theorem i_vc_make {k : Nat} {u : SX} {v : SY} (I : i_Rel k u v) (hk : k + 3 ≤ 1537) (v1 : Int32) : wpX_make (fun r u' => wpY_make (fun r' v' => r' = r ∧ i_Rel (k + 3) u' v') v v1) u v1 := by
  obtain ⟨c, e, ro, sz, rf, hd, rfl, rfl, ok⟩ := I
  by_cases h1 : v1 < 1
  · exact br_t h1 (br_t h1 ⟨rfl, hv_mk _ _ ok⟩)
  · by_cases h2 : v1 ≤ 100
    · have h0 : ¬ v1 < 0 := fun g => h1 (Int32.lt_trans g (by decide))
      obtain ⟨w, hw, rfl⟩ := nI_of h0
      have g1 : ¬ w < 1 := fun g => h1 ((nI_ltI (a := w) (b := 1) hw (by decide)).mpr g)
      have g2 : w ≤ 100 := (nI_leI (a := w) (b := 100) hw (by decide)).mp h2
      obtain ⟨n, n1, n2, hc⟩ := ok.1
      obtain ⟨r, u', v', q1, q2, q3⟩ := hv_make (k := k) (hd := hd) ok (by omega) g2 n2 hc n 0 (by omega)
      exact br_f h1 (br_t h2 ⟨n + 1, q2 _ (br_f h1 (br_t h2 ⟨n + 1, q3 _ ⟨rfl, q1⟩⟩))⟩)
    · exact br_f h1 (br_f h2 (br_f h1 (br_f h2 ⟨rfl, hv_mk _ _ ok⟩)))
theorem i_vc_setRoot {k : Nat} {u : SX} {v : SY} (I : i_Rel k u v) (hk : k + 3 ≤ 1537) (v1 : Int32) (v2 : Int32) : wpX_setRoot (fun r u' => wpY_setRoot (fun r' v' => r' = r ∧ i_Rel (k + 3) u' v') v v1 (lw_bz v2)) u v1 (lw_bz v2) := by
  obtain ⟨c, e, ro, sz, rf, hd, rfl, rfl, ok⟩ := I
  unfold wpX_setRoot wpY_setRoot
  dsimp only
  by_cases g : hv_ex e v1
  · obtain ⟨x, hx, rfl, z⟩ := g
    refine hx_ex1 hx z (br_f hv_10 ?_)
    by_cases h : lw_bz v2 = 0
    · exact br_t h (nm_e (hy_ex1 hx z (br_f hv_10 (br_t h (nm_e ⟨rfl, hv_mk _ _ (hv_ok_ro ok (fun j hj => ok.2.2.1 j (hv_an hj)))⟩)))))
    · exact br_f h (nm_e (hy_ex1 hx z (br_f hv_10 (br_f h (nm_e ⟨rfl, hv_mk _ _ (hv_ok_ro ok (fun j hj => hv_or1 (by omega) (ok.2.2.1 j) z hj))⟩)))))
  · exact hx_ex0 g (br_t rfl (hy_ex0 g (br_t rfl ⟨rfl, hv_mk _ _ ok⟩)))
theorem i_vc_refer {k : Nat} {u : SX} {v : SY} (I : i_Rel k u v) (hk : k + 3 ≤ 1537) (v1 : Int32) (v2 : Int32) : wpX_refer (fun r u' => wpY_refer (fun r' v' => r' = r ∧ i_Rel (k + 3) u' v') v v1 v2) u v1 v2 := by
  obtain ⟨c, e, ro, sz, rf, hd, rfl, rfl, ok⟩ := I
  unfold wpX_refer wpY_refer
  dsimp only
  by_cases g : hv_ex e v1
  · obtain ⟨a, ha, rfl, z⟩ := g
    refine hx_ex1 ha z (br_f hv_10 ?_)
    by_cases g2 : hv_ex e v2
    · obtain ⟨b, hb, rfl, z2⟩ := g2
      refine hx_ex1 hb z2 (br_f hv_10 ⟨hv_in16 ha, hv_in16 ha, nm_e (hy_ex1 ha z (br_f hv_10 (hy_ex1 hb z2 (br_f hv_10 ⟨hv_in16 ha, hv_in16 ha, nm_e ⟨rfl, hv_mk _ _ ?_⟩⟩))))⟩)
      rw [hv_cl ha]
      exact hv_ok_rf ok z (fun j hj => hv_or1 (by omega) (ok.2.2.2.1 a ha j) z2 hj)
    · exact hx_ex0 g2 (br_t rfl (hy_ex1 ha z (br_f hv_10 (hy_ex0 g2 (br_t rfl ⟨rfl, hv_mk _ _ ok⟩)))))
  · exact hx_ex0 g (br_t rfl (hy_ex0 g (br_t rfl ⟨rfl, hv_mk _ _ ok⟩)))
theorem i_vc_forget {k : Nat} {u : SX} {v : SY} (I : i_Rel k u v) (hk : k + 3 ≤ 1537) (v1 : Int32) (v2 : Int32) : wpX_forget (fun r u' => wpY_forget (fun r' v' => r' = r ∧ i_Rel (k + 3) u' v') v v1 v2) u v1 v2 := by
  obtain ⟨c, e, ro, sz, rf, hd, rfl, rfl, ok⟩ := I
  unfold wpX_forget wpY_forget
  dsimp only
  by_cases g : hv_ex e v1
  · obtain ⟨a, ha, rfl, z⟩ := g
    refine hx_ex1 ha z (br_f hv_10 ?_)
    by_cases g2 : hv_ex e v2
    · obtain ⟨b, hb, rfl, z2⟩ := g2
      cases z3 : bt (rf (nI a).toNatClampNeg) b
      · exact hx_ex1 hb z2 (br_f hv_10 ⟨hv_in16 ha, hx_f hb z3 (br_t rfl (hy_ex1 ha z (br_f hv_10 (hy_ex1 hb z2 (br_f hv_10 ⟨hv_in16 ha, br_t (hv_gf (by omega) z3) ⟨rfl, hv_mk _ _ ok⟩⟩)))))⟩)
      · refine hx_ex1 hb z2 (br_f hv_10 ⟨hv_in16 ha, hx_t hb z3 (br_f hv_10 ⟨hv_in16 ha, hv_in16 ha, nm_e (hy_ex1 ha z (br_f hv_10 (hy_ex1 hb z2 (br_f hv_10 ⟨hv_in16 ha, br_f (hv_gz (by omega) z3) ⟨hv_in16 ha, hv_in16 ha, nm_e ⟨rfl, hv_mk _ _ ?_⟩⟩⟩))))⟩)⟩)
        rw [hv_cl ha]
        exact hv_ok_rf ok z (fun j hj => ok.2.2.2.1 a ha j (hv_an hj))
    · exact hx_ex0 g2 (br_t rfl (hy_ex1 ha z (br_f hv_10 (hy_ex0 g2 (br_t rfl ⟨rfl, hv_mk _ _ ok⟩)))))
  · exact hx_ex0 g (br_t rfl (hy_ex0 g (br_t rfl ⟨rfl, hv_mk _ _ ok⟩)))
/-! ===== taking a set g of objects away ===== -/
def hv_rm (g : Int32) (rf : Nat → Int32) (i : Nat) : Nat → Int32 := fun a => if a < i then (if bt g a = true then 0 else rf a &&& (g ^^^ (-1))) else rf a
theorem hv_rm_0 (g : Int32) (rf : Nat → Int32) : hv_rm g rf 0 = rf := funext fun a => if_neg (Nat.not_lt_zero a)
theorem hv_rm_i (g : Int32) (rf : Nat → Int32) (i : Nat) : hv_rm g rf i i = rf i := if_neg (Nat.lt_irrefl i)
theorem hv_rm_s {g : Int32} {rf : Nat → Int32} {i : Nat} {w : Int32} (h : w = if bt g i = true then 0 else rf i &&& (g ^^^ (-1))) : upd (hv_rm g rf i) i w = hv_rm g rf (i + 1) := by
  funext a
  by_cases q : a = i
  · subst q
    rw [pk_us, h]
    exact (if_pos (Nat.lt_succ_self a)).symm
  · rw [pk_un q]
    unfold hv_rm
    by_cases l : a < i
    · rw [if_pos l, if_pos (show a < i + 1 by omega)]
    · rw [if_neg l, if_neg (show ¬ a < i + 1 by omega)]
theorem hx_rm {post : SX → Prop} {c e ro : Int32} {sz rf : Nat → Int32} (g : Int32) (hp : post (c, e &&& (g ^^^ (-1)), ro &&& (g ^^^ (-1)), sz, hv_rm g rf 16)) : wpX_removeAll post (c, e, ro, sz, rf) g := by
  have key : ∀ d i, i + d = 16 → wX_removeAll_26 post g c (e &&& (g ^^^ (-1))) (ro &&& (g ^^^ (-1))) (d + 1) (nI i) sz (hv_rm g rf i) := by
    intro d
    induction d with
    | zero =>
      intro i hi
      obtain rfl : i = 16 := by omega
      exact br_t hv_16e hp
    | succ d ih =>
      intro i hi
      have h := ih (i + 1) (by omega)
      have hi' : i < 16 := by omega
      refine br_f (hv_16 hi') ?_
      cases z : bt g i
      · refine hx_f hi' z (br_t rfl ⟨hv_in16 hi', hv_in16 hi', nm_r ?_ (nm_r (nI_1 i) h)⟩)
        rw [hv_cl hi', hv_rm_i]
        exact hv_rm_s (by rw [z]; rfl)
      · refine hx_t hi' z (br_f hv_10 ⟨hv_in16 hi', nm_r ?_ (nm_r (nI_1 i) h)⟩)
        rw [hv_cl hi']
        exact hv_rm_s (by rw [z]; rfl)
  refine nm_e (nm_e ⟨17, ?_⟩)
  have h := key 16 0 rfl
  rw [hv_rm_0] at h
  exact h
theorem hy_rm {post : Int32 → SY → Prop} {c e ro : Int32} {sz rf hd : Nat → Int32} {x : Nat} (hx : x < 16) (hz : bt e x = true) (hp : post 1 (c, e &&& (((1 : Int32) <<< (nI x &&& 31)) ^^^ (-1)), ro &&& (((1 : Int32) <<< (nI x &&& 31)) ^^^ (-1)), sz, hv_rm ((1 : Int32) <<< (nI x &&& 31)) rf 16, hd)) : wpY_destroy post (c, e, ro, sz, rf, hd) (nI x) := by
  have key : ∀ d i, i + d = 16 → wY_destroy_40 post (nI x) c (e &&& (((1 : Int32) <<< (nI x &&& 31)) ^^^ (-1))) (ro &&& (((1 : Int32) <<< (nI x &&& 31)) ^^^ (-1))) (d + 1) (nI i) sz (hv_rm ((1 : Int32) <<< (nI x &&& 31)) rf i) hd := by
    intro d
    induction d with
    | zero =>
      intro i hi
      obtain rfl : i = 16 := by omega
      exact br_t hv_16e hp
    | succ d ih =>
      intro i hi
      have h := ih (i + 1) (by omega)
      have hi' : i < 16 := by omega
      have hb := hv_1 x (by omega) i (by omega)
      refine br_f (hv_16 hi') ?_
      by_cases q : i = x
      · rw [decide_eq_true q] at hb
        refine br_t (by rw [q]) ⟨hv_in16 hi', nm_r ?_ (nm_r (nI_1 i) h)⟩
        rw [hv_cl hi']
        exact hv_rm_s (by rw [hb]; rfl)
      · rw [decide_eq_false q] at hb
        refine br_f (by rw [nI_eq (by omega) (by omega)]; exact q) ⟨hv_in16 hi', hv_in16 hi', nm_r ?_ (nm_r (nI_1 i) h)⟩
        rw [hv_cl hi', hv_rm_i]
        exact hv_rm_s (by rw [hb]; rfl)
  unfold wpY_destroy
  dsimp only
  refine hy_ex1 hx hz (br_f hv_10 (nm_e (nm_e ⟨17, ?_⟩)))
  have h := key 16 0 rfl
  rw [hv_rm_0] at h
  exact h
theorem hv_rm_ok {c e ro : Int32} {sz rf : Nat → Int32} (ok : hv_ok c e ro sz rf) (g : Int32) : hv_ok c (e &&& (g ^^^ (-1))) (ro &&& (g ^^^ (-1))) sz (hv_rm g rf 16) := by
  obtain ⟨o1, o2, o3, o4, o5, o6⟩ := ok
  have hsub : ∀ s, (∀ j, bt s j = true → bt e j = true) → ∀ j, bt (s &&& (g ^^^ (-1))) j = true → bt (e &&& (g ^^^ (-1))) j = true := by
    intro s hs j h
    rw [b_and] at h ⊢
    obtain ⟨h1, h2⟩ := Bool.and_eq_true_iff.mp h
    rw [hs j h1, h2]
    rfl
  refine ⟨o1, fun j h => o2 j (hv_an h), hsub ro o3, ?_, ?_, fun a ha h => o6 a ha (hv_an h)⟩
  · intro a ha j h
    have e1 : hv_rm g rf 16 a = if bt g a = true then 0 else rf a &&& (g ^^^ (-1)) := if_pos ha
    rw [e1] at h
    by_cases z : bt g a = true
    · rw [if_pos z, b_0] at h; cases h
    · rw [if_neg z] at h; exact hsub (rf a) (o4 a ha) j h
  · intro a ha h
    have e1 : hv_rm g rf 16 a = if bt g a = true then 0 else rf a &&& (g ^^^ (-1)) := if_pos ha
    rw [e1]
    by_cases z : bt g a = true
    · rw [if_pos z]
    · rw [if_neg z, o5 a ha, Int32.zero_and]
      cases y : bt e a
      · rfl
      · rw [b_and, y, hv_not g (by omega)] at h
        cases w : bt g a
        · rw [w] at h; cases h
        · exact absurd w z
theorem i_vc_destroy {k : Nat} {u : SX} {v : SY} (I : i_Rel k u v) (hk : k + 3 ≤ 1537) (v1 : Int32) : wpX_destroy (fun r u' => wpY_destroy (fun r' v' => r' = r ∧ i_Rel (k + 3) u' v') v v1) u v1 := by
  obtain ⟨c, e, ro, sz, rf, hd, rfl, rfl, ok⟩ := I
  by_cases g : hv_ex e v1
  · obtain ⟨x, hx, rfl, z⟩ := g
    unfold wpX_destroy
    dsimp only
    refine hx_ex1 hx z (br_f hv_10 (hx_rm _ ?_))
    dsimp only
    exact hy_rm hx z ⟨rfl, hv_mk _ _ (hv_rm_ok ok _)⟩
  · unfold wpX_destroy wpY_destroy
    dsimp only
    exact hx_ex0 g (br_t rfl (hy_ex0 g (br_t rfl ⟨rfl, hv_mk _ _ ok⟩)))
end
section
/-! ===== sweep: the dead ones at once, or one after another ===== -/
theorem hv_nn {s g h g' : Int32} (hg : ∀ j, j < 32 → bt g' j = (bt g j || bt h j)) : (s &&& (g ^^^ (-1))) &&& (h ^^^ (-1)) = s &&& (g' ^^^ (-1)) := by
  apply b_ext
  intro j hj
  rw [b_and, b_and, b_and, hv_not g hj, hv_not h hj, hv_not g' hj, hg j hj]
  cases bt s j <;> cases bt g j <;> cases bt h j <;> rfl
theorem hv_rm_c {rf : Nat → Int32} {g h g' : Int32} (hg : ∀ j, j < 32 → bt g' j = (bt g j || bt h j)) : hv_rm h (hv_rm g rf 16) 16 = hv_rm g' rf 16 := by
  funext a
  by_cases l : a < 16
  · have e1 : hv_rm h (hv_rm g rf 16) 16 a = if bt h a = true then 0 else hv_rm g rf 16 a &&& (h ^^^ (-1)) := if_pos l
    have e2 : hv_rm g rf 16 a = if bt g a = true then 0 else rf a &&& (g ^^^ (-1)) := if_pos l
    have e3 : hv_rm g' rf 16 a = if bt g' a = true then 0 else rf a &&& (g' ^^^ (-1)) := if_pos l
    rw [e1, e2, e3, hg a (by omega)]
    cases z1 : bt g a
    · cases z2 : bt h a
      · simp only [Bool.or_self, Bool.false_eq_true, if_false]
        exact hv_nn hg
      · simp
    · cases z2 : bt h a
      · simp
      · simp
  · have e1 : hv_rm h (hv_rm g rf 16) 16 a = hv_rm g rf 16 a := if_neg l
    have e2 : hv_rm g rf 16 a = rf a := if_neg l
    have e3 : hv_rm g' rf 16 a = rf a := if_neg l
    rw [e1, e2, e3]
theorem hv_a0 (s : Int32) : s &&& ((0 : Int32) ^^^ (-1)) = s := by
  apply b_ext
  intro j hj
  rw [b_and, hv_not _ hj, b_0]
  cases bt s j <;> rfl
theorem hv_rm_z (rf : Nat → Int32) : hv_rm 0 rf 16 = rf := by
  funext a
  unfold hv_rm
  by_cases l : a < 16
  · rw [if_pos l, if_neg (by rw [b_0]; decide), hv_a0]
  · rw [if_neg l]
def hv_G (g : Int32) : Nat → Int32
  | 0 => 0
  | i + 1 => if bt g i = true then hv_G g i ||| ((1 : Int32) <<< (nI i &&& 31)) else hv_G g i
theorem hv_G_t {g : Int32} {i : Nat} (h : bt g i = true) : hv_G g (i + 1) = hv_G g i ||| ((1 : Int32) <<< (nI i &&& 31)) := if_pos h
theorem hv_G_f {g : Int32} {i : Nat} (h : bt g i = false) : hv_G g (i + 1) = hv_G g i := if_neg (by rw [h]; decide)
theorem hv_Gb (g : Int32) : ∀ i, i ≤ 16 → ∀ j, j < 32 → bt (hv_G g i) j = (decide (j < i) && bt g j) := by
  intro i
  induction i with
  | zero => intro _ j _; exact b_0 j
  | succ i ih =>
    intro hi a ha
    have y := ih (by omega) a ha
    by_cases q : a = i
    · subst q
      rw [decide_eq_false (Nat.lt_irrefl a)] at y
      cases z : bt g a
      · rw [hv_G_f z, y]; simp
      · rw [hv_G_t z, b_or, y, hv_1 a ha a ha]; simp
    · have q2 : decide (a < i + 1) = decide (a < i) := by by_cases w : a < i <;> simp [w] <;> omega
      rw [q2, ← y]
      cases z : bt g i
      · rw [hv_G_f z]
      · rw [hv_G_t z, b_or, hv_1 i (by omega) a ha, decide_eq_false q, Bool.or_false]
theorem hy_sw {post : Int32 → SY → Prop} {c e ro : Int32} {sz rf hd : Nat → Int32} {g : Int32} (hg : ∀ j, bt g j = true → bt e j = true) (h16 : ∀ j, bt g j = true → j < 16) (hp : post (nI (hv_cn (bt g) 16)) (c, e &&& (g ^^^ (-1)), ro &&& (g ^^^ (-1)), sz, hv_rm g rf 16, hd)) : ∀ d i, i + d = 16 → wY_sweep_16 post g (d + 1) (nI (hv_cn (bt g) i)) (nI i) c (e &&& (hv_G g i ^^^ (-1))) (ro &&& (hv_G g i ^^^ (-1))) sz (hv_rm (hv_G g i) rf 16) hd := by
  intro d
  induction d with
  | zero =>
    intro i hi
    obtain rfl : i = 16 := by omega
    have eG : hv_G g 16 = g := by
      apply b_ext
      intro j hj
      rw [hv_Gb g 16 (Nat.le_refl _) j hj]
      cases z : bt g j
      · simp
      · rw [decide_eq_true (h16 j z)]; rfl
    rw [eG]
    exact br_t hv_16e hp
  | succ d ih =>
    intro i hi
    have h := ih (i + 1) (by omega)
    have hi' : i < 16 := by omega
    refine br_f (hv_16 hi') ?_
    cases z : bt g i
    · rw [hv_G_f z, hv_cn_f z] at h
      exact br_f (hv_gn (by omega) z) (nm_r (nI_1 i) h)
    · have hb : ∀ j, j < 32 → bt (hv_G g (i + 1)) j = (bt (hv_G g i) j || bt ((1 : Int32) <<< (nI i &&& 31)) j) := by
        intro j hj
        rw [hv_G_t z, b_or]
      have he : bt (e &&& (hv_G g i ^^^ (-1))) i = true := by
        rw [b_and, hg i z, hv_not _ (by omega), hv_Gb g i (by omega) i (by omega), decide_eq_false (Nat.lt_irrefl i)]
        rfl
      refine br_t (hv_gt (by omega) z) (hy_rm hi' he ?_)
      dsimp only
      rw [hv_nn hb, hv_nn hb, hv_rm_c hb]
      rw [hv_cn_t z] at h
      exact nm_r (nI_1 _) (nm_r (nI_1 i) h)
theorem i_vc_sweep {k : Nat} {u : SX} {v : SY} (I : i_Rel k u v) (hk : k + 3 ≤ 1537) : wpX_sweep (fun r u' => wpY_sweep (fun r' v' => r' = r ∧ i_Rel (k + 3) u' v') v) u := by
  obtain ⟨c, e, ro, sz, rf, hd, rfl, rfl, ok⟩ := I
  unfold wpX_sweep wpY_sweep
  dsimp only
  refine hx_L ok (nm_e (hx_rm _ ?_))
  dsimp only
  refine hx_cn _ (hy_L (nm_e ⟨17, ?_⟩))
  have h := hy_sw (post := fun r' v' => r' = nI (hv_cn (bt (e &&& (hv_L e ro rf ^^^ (-1)))) 16) ∧ i_Rel (k + 3) (c, e &&& ((e &&& (hv_L e ro rf ^^^ (-1))) ^^^ (-1)), ro &&& ((e &&& (hv_L e ro rf ^^^ (-1))) ^^^ (-1)), sz, hv_rm (e &&& (hv_L e ro rf ^^^ (-1))) rf 16) v') (c := c) (e := e) (ro := ro) (sz := sz) (rf := rf) (hd := hd) (g := (e &&& (hv_L e ro rf ^^^ (-1)))) (fun j hj => hv_an hj) (fun j hj => ok.2.1 j (hv_an hj)) ⟨rfl, hv_mk _ _ (hv_rm_ok ok _)⟩ 16 0 rfl
  have e0 : hv_G (e &&& (hv_L e ro rf ^^^ (-1))) 0 = 0 := rfl
  rw [e0, hv_a0, hv_a0, hv_rm_z] at h
  exact h
end
section
/-! ===== suspect ===== -/
theorem hv_wt {c e ro : Int32} {sz rf : Nat → Int32} (ok : hv_ok c e ro sz rf) (x : Nat) : ∃ w, w ≤ 1600 ∧ hv_sum (hv_K e ro rf x) sz 16 = nI w ∧ (x < 16 → bt (hv_L e ro rf) x = true → 1 ≤ w) := by
  obtain ⟨w, h1, h2, h3⟩ := hv_sum_n (s := hv_K e ro rf x) (z := sz) (fun a ha h => ok.2.2.2.2.2 a ha (hv_L_e (hv_K_L h))) 16 (Nat.le_refl _)
  exact ⟨w, by omega, h2, fun hx h => h3 x hx (hv_K_self h)⟩
/-- the weights as naturals -/
def hv_Wt (e ro : Int32) (sz rf : Nat → Int32) (w : Nat → Nat) : Prop := ∀ x, x < 16 → w x ≤ 1600 ∧ hv_sum (hv_K e ro rf x) sz 16 = nI (w x) ∧ (bt (hv_L e ro rf) x = true → 1 ≤ w x)
theorem hv_wts {c e ro : Int32} {sz rf : Nat → Int32} (ok : hv_ok c e ro sz rf) : ∃ w, hv_Wt e ro sz rf w :=
  ⟨fun x => (hv_wt ok x).choose, fun x hx => ⟨(hv_wt ok x).choose_spec.1, (hv_wt ok x).choose_spec.2.1, (hv_wt ok x).choose_spec.2.2 hx⟩⟩
/-- the best so far below i -/
def hv_Bst (s : Int32) (w : Nat → Nat) (i : Nat) (x2 x3 : Int32) : Prop :=
  (x2 = -1 ∧ x3 = 0 ∧ ∀ a, a < i → bt s a = false) ∨ ∃ h, h < i ∧ bt s h = true ∧ x2 = nI h ∧ x3 = nI (w h) ∧ ∀ a, a < i → bt s a = true → a ≠ h → hv_bf w h a = true
theorem hx_hv {c e ro : Int32} {sz rf : Nat → Int32} (ok : hv_ok c e ro sz rf) {w : Nat → Nat} (W : hv_Wt e ro sz rf w) {s : Int32} (hs : ∀ j, j < 16 → bt s j = true → bt (hv_L e ro rf) j = true) (hne : ∃ a, a < 16 ∧ bt s a = true) : ∃ h, hv_Top (bt s) w h ∧ ∀ post : Int32 → Prop, post (nI h) → wpX_heaviestOf post (c, e, ro, sz, rf) s := by
  have key : ∀ d i x2 x3, i + d = 16 → hv_Bst s w i x2 x3 → ∃ h, hv_Top (bt s) w h ∧ ∀ post : Int32 → Prop, post (nI h) → wX_heaviestOf_7 post s c e ro sz rf (d + 1) x2 x3 (nI i) := by
    intro d
    induction d with
    | zero =>
      intro i x2 x3 hi hB
      obtain rfl : i = 16 := by omega
      rcases hB with ⟨_, _, hB⟩ | ⟨h, h1, h2, rfl, rfl, h3⟩
      · obtain ⟨a, ha, hb⟩ := hne
        rw [hB a ha] at hb
        cases hb
      · exact ⟨h, ⟨h1, h2, h3⟩, fun post hp => br_t hv_16e hp⟩
    | succ d ih =>
      intro i x2 x3 hi hB
      have hi' : i < 16 := by omega
      cases z : bt s i
      · have hB' : hv_Bst s w (i + 1) x2 x3 := by
          rcases hB with ⟨q1, q2, hB⟩ | ⟨h, h1, h2, q1, q2, h3⟩
          · refine Or.inl ⟨q1, q2, fun a ha => ?_⟩
            by_cases q : a = i
            · subst q; exact z
            · exact hB a (by omega)
          · refine Or.inr ⟨h, by omega, h2, q1, q2, fun a ha hb => ?_⟩
            by_cases q : a = i
            · subst q; rw [z] at hb; cases hb
            · exact h3 a (by omega) hb
        obtain ⟨h, hT, hw⟩ := ih (i + 1) x2 x3 (by omega) hB'
        exact ⟨h, hT, fun post hp => br_f (hv_16 hi') (hx_f hi' z (br_t rfl (nm_r (nI_1 i) (hw post hp))))⟩
      · obtain ⟨w1, w2, w3⟩ := W i hi'
        have w4 := w3 (hs i hi' z)
        have hnew : (∀ a, a < i → bt s a = true → hv_bf w i a = true) → hv_Bst s w (i + 1) (nI i) (nI (w i)) := by
          intro hh
          refine Or.inr ⟨i, by omega, z, rfl, rfl, fun a ha hb q => hh a (by omega) hb⟩
        rcases hB with ⟨q1, q2, hB⟩ | ⟨h, h1, h2, q1, q2, h3⟩
        · have hle : ¬ nI (w i) ≤ x3 := by rw [q2]; exact nI_nle (by omega) (by omega)
          obtain ⟨h, hT, hw⟩ := ih (i + 1) (nI i) (nI (w i)) (by omega) (hnew (fun a ha hb => by rw [hB a ha] at hb; cases hb))
          refine ⟨h, hT, fun post hp => br_f (hv_16 hi') (hx_t hi' z (br_f hv_10 (hx_W ok hi' ?_)))⟩
          rw [w2]
          exact br_f hle (nm_r (nI_1 i) (hw post hp))
        · obtain ⟨y1, y2, y3⟩ := W h (by omega)
          by_cases hc : w i ≤ w h
          · have hle : nI (w i) ≤ x3 := by rw [q2]; exact nI_le hc (by omega)
            have hB' : hv_Bst s w (i + 1) x2 x3 := by
              refine Or.inr ⟨h, by omega, h2, q1, q2, fun a ha hb hne => ?_⟩
              by_cases q : a = i
              · subst q; exact hv_bf_i.mpr (by omega)
              · exact h3 a (by omega) hb hne
            obtain ⟨h', hT, hw⟩ := ih (i + 1) x2 x3 (by omega) hB'
            refine ⟨h', hT, fun post hp => br_f (hv_16 hi') (hx_t hi' z (br_f hv_10 (hx_W ok hi' ?_)))⟩
            rw [w2]
            exact br_t hle (nm_r (nI_1 i) (hw post hp))
          · have hle : ¬ nI (w i) ≤ x3 := by rw [q2]; exact nI_ge (by omega) (by omega)
            have hh : ∀ a, a < i → bt s a = true → hv_bf w i a = true := by
              intro a ha hb
              by_cases q : a = h
              · subst q; exact hv_bf_i.mpr (by omega)
              · have := hv_bf_i.mp (h3 a ha hb q)
                exact hv_bf_i.mpr (by omega)
            obtain ⟨h', hT, hw⟩ := ih (i + 1) (nI i) (nI (w i)) (by omega) (hnew hh)
            refine ⟨h', hT, fun post hp => br_f (hv_16 hi') (hx_t hi' z (br_f hv_10 (hx_W ok hi' ?_)))⟩
            rw [w2]
            exact br_f hle (nm_r (nI_1 i) (hw post hp))
  obtain ⟨h, hT, hw⟩ := key 16 0 (-1) 0 rfl (Or.inl ⟨rfl, rfl, fun a ha => absurd ha (Nat.not_lt_zero a)⟩)
  exact ⟨h, hT, fun post hp => ⟨17, hw post hp⟩⟩
theorem hx_su {c e ro : Int32} {sz rf : Nat → Int32} (ok : hv_ok c e ro sz rf) {w : Nat → Nat} (W : hv_Wt e ro sz rf w) {k : Nat} (hk : k < hv_cn (bt (hv_L e ro rf)) 16) : ∀ d j s, j + d = k → hv_Sel (bt (hv_L e ro rf)) (bt s) w j → ∃ h, h < 16 ∧ bt (hv_L e ro rf) h = true ∧ hv_rk (bt (hv_L e ro rf)) w h = k ∧ ∀ post : Int32 → Prop, post (nI h) → wX_suspect_25 post (nI k) c e ro sz rf (d + 1) s (nI j) := by
  have hk16 : k < 16 := Nat.lt_of_lt_of_le hk (hv_cn_le _ 16)
  intro d
  induction d with
  | zero =>
    intro j s hj A
    obtain rfl : j = k := by omega
    obtain ⟨h, hT, hw⟩ := hx_hv ok W (fun a ha => A.1 a ha) (hv_Sel_ne A hk)
    obtain ⟨r1, r2⟩ := hv_Sel_r A hT
    exact ⟨h, hT.1, r1, r2, fun post hp => br_t (nI_le (Nat.le_refl _) (by omega)) (hw _ hp)⟩
  | succ d ih =>
    intro j s hj A
    obtain ⟨h, hT, hw⟩ := hx_hv ok W (fun a ha => A.1 a ha) (hv_Sel_ne A (by omega))
    have h16 := hT.1
    have A' : hv_Sel (bt (hv_L e ro rf)) (bt (s &&& (((1 : Int32) <<< (nI h &&& 31)) ^^^ (-1)))) w (j + 1) := by
      refine hv_Sel_s A hT ?_ ?_
      · rw [b_and, hv_not _ (by omega), hv_1 h (by omega) h (by omega)]; simp
      · intro a ha q
        rw [b_and, hv_not _ (by omega), hv_1 h (by omega) a (by omega), decide_eq_false q]; simp
    obtain ⟨h', r0, r1, r2, r3⟩ := ih (j + 1) _ (by omega) A'
    exact ⟨h', r0, r1, r2, fun post hp => br_f (nI_ge (by omega) (by omega)) (hw _ (nm_e (nm_r (nI_1 j) (r3 post hp))))⟩
/-! the reference's side -/
def hv_hd (hd R : Nat → Int32) (i : Nat) : Nat → Int32 := fun j => if j < i then R j else hd j
theorem hv_hd_0 (hd R : Nat → Int32) : hv_hd hd R 0 = hd := funext fun j => if_neg (Nat.not_lt_zero j)
theorem hv_hd_s (hd R : Nat → Int32) (i : Nat) : upd (hv_hd hd R i) i (R i) = hv_hd hd R (i + 1) := by
  funext j
  by_cases q : j = i
  · subst q; rw [pk_us]; exact (if_pos (Nat.lt_succ_self j)).symm
  · rw [pk_un q]
    unfold hv_hd
    by_cases l : j < i
    · rw [if_pos l, if_pos (show j < i + 1 by omega)]
    · rw [if_neg l, if_neg (show ¬ j < i + 1 by omega)]
theorem hy_94 {post : Int32 → SY → Prop} {J32 : Int32 → Prop} {J44 : Int32 → Int32 → Prop} {x1 x3 c e ro : Int32} {sz rf hd : Nat → Int32} {L : Int32} {n i : Nat} {b : Bool} (hi : i < 16) (hJ : J44 (nI (if (bt L i && b) = true then n + 1 else n)) (nI (i + 1))) : wY_suspect_94 post J32 J44 x1 L x3 (nI n) (nI i) (hv_b b) c e ro sz rf hd := by
  cases z : bt L i
  · rw [z] at hJ
    exact br_f (hv_gn (by omega) z) (nm_r (Int32.add_zero _) (nm_r (nI_1 i) hJ))
  · rw [z] at hJ
    cases b
    · exact br_t (hv_gt (by omega) z) (br_t rfl (nm_r (Int32.add_zero _) (nm_r (nI_1 i) hJ)))
    · exact br_t (hv_gt (by omega) z) (br_f hv_10 (nm_r (nI_1 n) (nm_r (nI_1 i) hJ)))
theorem hy_44 {post : Int32 → SY → Prop} {J32 : Int32 → Prop} {x1 c e ro : Int32} {sz rf hd : Nat → Int32} {L : Int32} {w : Nat → Nat} (hw : ∀ x, x < 16 → w x ≤ 1600 ∧ hd x = nI (w x)) {y : Nat} (hy : y < 16) (hp : bt L y = true → nI (hv_rk (bt L) w y) = x1 → post (nI y) (c, e, ro, sz, rf, hd)) (hn : ¬ (bt L y = true ∧ nI (hv_rk (bt L) w y) = x1) → J32 (nI (y + 1))) : ∀ d i, i + d = 16 → wY_suspect_44 post J32 x1 L (nI y) c e ro sz rf hd (d + 1) (nI (hv_cn (fun z => bt L z && hv_bf w z y) i)) (nI i) := by
  intro d
  induction d with
  | zero =>
    intro i hi
    obtain rfl : i = 16 := by omega
    refine br_t hv_16e ?_
    cases z : bt L y
    · exact br_f (hv_gn (by omega) z) (nm_r (nI_1 y) (hn (by rw [z]; intro g; cases g.1)))
    · refine br_t (hv_gt (by omega) z) ?_
      by_cases q : nI (hv_rk (bt L) w y) = x1
      · exact br_t q (hp z q)
      · exact br_f q (nm_r (nI_1 y) (hn (fun g => q g.2)))
  | succ d ih =>
    intro i hi
    have h := ih (i + 1) (by omega)
    have hi' : i < 16 := by omega
    obtain ⟨a1, a2⟩ := hw i hi'
    obtain ⟨b1, b2⟩ := hw y hy
    have h2 : wY_suspect_94 post J32 (wY_suspect_44 post J32 x1 L (nI y) c e ro sz rf hd (d + 1)) x1 L (nI y) (nI (hv_cn (fun z => bt L z && hv_bf w z y) i)) (nI i) (hv_b (hv_bf w i y)) c e ro sz rf hd := hy_94 hi' h
    have ea : hd (nI i).toNatClampNeg = nI (w i) := by rw [hv_cl hi', a2]
    have eb : hd (nI y).toNatClampNeg = nI (w y) := by rw [hv_cl hy, b2]
    refine br_f (hv_16 hi') ⟨hv_in16 hi', hv_in16 hy, ?_⟩
    by_cases c1 : w y < w i
    · have hb : hv_bf w i y = true := hv_bf_i.mpr (Or.inl c1)
      rw [hb] at h2
      exact br_t (by rw [ea, eb]; exact nI_lt c1 (by omega)) h2
    · refine br_f (by rw [ea, eb]; exact nI_nlt (by omega) (by omega)) ⟨hv_in16 hi', hv_in16 hy, ?_⟩
      by_cases c2 : w i = w y
      · refine br_t (by rw [ea, eb, c2]) ?_
        by_cases c3 : y ≤ i
        · have hb : hv_bf w i y = false := by
            cases z : hv_bf w i y
            · rfl
            · have := hv_bf_i.mp z; omega
          rw [hb] at h2
          exact br_t (nI_le c3 (by omega)) h2
        · have hb : hv_bf w i y = true := hv_bf_i.mpr (by omega)
          rw [hb] at h2
          exact br_f (nI_ge (by omega) (by omega)) h2
      · have hb : hv_bf w i y = false := by
          cases z : hv_bf w i y
          · rfl
          · have := hv_bf_i.mp z; omega
        rw [hb] at h2
        exact br_f (by rw [ea, eb, nI_eq (by omega) (by omega)]; exact c2) h2
def hv_pS (L : Int32) (w : Nat → Nat) (x1 : Int32) (y : Nat) : Bool := bt L y && decide (nI (hv_rk (bt L) w y) = x1)
theorem hy_32 {post : Int32 → SY → Prop} {x1 c e ro : Int32} {sz rf hd : Nat → Int32} {L : Int32} {w : Nat → Nat} (hw : ∀ x, x < 16 → w x ≤ 1600 ∧ hd x = nI (w x)) : ∀ d y, y + d = 16 → post (hv_fst (hv_pS L w x1) d y) (c, e, ro, sz, rf, hd) → wY_suspect_32 post x1 L c e ro sz rf hd (d + 1) (nI y) := by
  intro d
  induction d with
  | zero =>
    intro y hy hp
    obtain rfl : y = 16 := by omega
    exact br_t hv_16e hp
  | succ d ih =>
    intro y hy hp
    have hy' : y < 16 := by omega
    refine br_f (hv_16 hy') ⟨17, hy_44 (J32 := wY_suspect_32 post x1 L c e ro sz rf hd (d + 1)) hw hy' ?_ ?_ 16 0 rfl⟩
    · intro g1 g2
      have g : hv_pS L w x1 y = true := by unfold hv_pS; rw [g1, decide_eq_true g2]; rfl
      rw [hv_fst_t g] at hp
      exact hp
    · intro hn
      have g : hv_pS L w x1 y = false := by
        unfold hv_pS
        cases z : bt L y
        · rfl
        · rw [decide_eq_false (fun q => hn ⟨z, q⟩)]; rfl
      rw [hv_fst_f g] at hp
      exact ih (y + 1) (by omega) hp
theorem hy_su {post : Int32 → SY → Prop} {x1 c e ro : Int32} {sz rf hd : Nat → Int32} {w : Nat → Nat} (W : hv_Wt e ro sz rf w) (hp : ∀ hd', post (hv_fst (hv_pS (hv_L e ro rf) w x1) 16 0) (c, e, ro, sz, rf, hd')) : wpY_suspect post (c, e, ro, sz, rf, hd) x1 := by
  have key : ∀ d i, i + d = 16 → wY_suspect_7 post x1 (hv_L e ro rf) c e ro (d + 1) (nI i) sz rf (hv_hd hd (fun x => nI (w x)) i) := by
    intro d
    induction d with
    | zero =>
      intro i hi
      obtain rfl : i = 16 := by omega
      exact br_t hv_16e ⟨17, hy_32 (w := w) (fun x hx => ⟨(W x hx).1, if_pos hx⟩) 16 0 rfl (hp _)⟩
    | succ d ih =>
      intro i hi
      have h := ih (i + 1) (by omega)
      have hi' : i < 16 := by omega
      refine br_f (hv_16 hi') (hy_W hi' ⟨hv_in16 hi', nm_r ?_ (nm_r (nI_1 i) h)⟩)
      rw [hv_cl hi', (W i hi').2.1]
      exact hv_hd_s hd (fun x => nI (w x)) i
  unfold wpY_suspect
  dsimp only
  refine hy_L ⟨17, ?_⟩
  have h := key 16 0 rfl
  rw [hv_hd_0] at h
  exact h
theorem i_vc_suspect {k : Nat} {u : SX} {v : SY} (I : i_Rel k u v) (hk : k + 3 ≤ 1537) (v1 : Int32) : wpX_suspect (fun r => wpY_suspect (fun r' v' => r' = r ∧ i_Rel (k + 3) u v') v v1) u v1 := by
  obtain ⟨c, e, ro, sz, rf, hd, rfl, rfl, ok⟩ := I
  obtain ⟨w, W⟩ := hv_wts ok
  have hle := hv_cn_le (bt (hv_L e ro rf)) 16
  have none_ : (∀ y, y < 16 → bt (hv_L e ro rf) y = true → nI (hv_rk (bt (hv_L e ro rf)) w y) ≠ v1) → hv_fst (hv_pS (hv_L e ro rf) w v1) 16 0 = -1 := by
    intro h
    apply hv_fst_n
    intro a _ ha
    unfold hv_pS
    cases z : bt (hv_L e ro rf) a
    · rfl
    · rw [decide_eq_false (h a (by omega) z)]; rfl
  unfold wpX_suspect
  dsimp only
  refine hx_L ok (hx_cn _ ?_)
  by_cases h0 : v1 < 0
  · refine br_t h0 (hy_su W (fun hd' => ⟨none_ ?_, hv_mk _ _ ok⟩))
    intro y hy sy q
    have := hv_rk_lt (w := w) hy sy
    exact nI_pos (n := hv_rk (bt (hv_L e ro rf)) w y) (by omega) (by rw [q]; exact h0)
  · obtain ⟨m, hm, rfl⟩ := nI_of h0
    refine br_f h0 ?_
    by_cases hc : m < hv_cn (bt (hv_L e ro rf)) 16
    · obtain ⟨h, r0, r1, r2, r3⟩ := hx_su ok W hc m 0 _ (by omega) (hv_Sel_0 _ w)
      refine br_t (nI_lt hc (by omega)) ⟨m + 1, r3 _ (hy_su W (fun hd' => ⟨?_, hv_mk _ _ ok⟩))⟩
      refine hv_fst_h (b := h) ?_ 16 0 (by omega) (by omega) ?_
      · unfold hv_pS; rw [r1, r2, decide_eq_true rfl]; rfl
      · intro a _ ha hpa
        unfold hv_pS at hpa
        obtain ⟨p1, p2⟩ := Bool.and_eq_true_iff.mp hpa
        have p3 := of_decide_eq_true p2
        have l1 := hv_rk_lt (w := w) (show a < 16 by omega) p1
        rw [nI_eq (by omega) (by omega)] at p3
        exact hv_rk_u (by omega) r0 p1 r1 (by rw [p3, r2])
    · refine br_f (nI_nlt (by omega) (by omega)) (hy_su W (fun hd' => ⟨none_ ?_, hv_mk _ _ ok⟩))
      intro y hy sy q
      have l1 := hv_rk_lt (w := w) hy sy
      rw [nI_eq (by omega) (by omega)] at q
      omega
end
