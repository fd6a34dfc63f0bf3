/-! ===== Int32 by its bits: bt x i ===== -/
def bt (x : Int32) (i : Nat) : Bool := x.toBitVec.getLsbD i
theorem b_ext {x y : Int32} (h : ∀ i, i < 32 → bt x i = bt y i) : x = y := Int32.toBitVec_inj.mp (BitVec.eq_of_getLsbD_eq (fun i hi => h i hi))
theorem b_or (x y : Int32) (i : Nat) : bt (x ||| y) i = (bt x i || bt y i) := by unfold bt; rw [Int32.toBitVec_or, BitVec.getLsbD_or]
theorem b_and (x y : Int32) (i : Nat) : bt (x &&& y) i = (bt x i && bt y i) := by unfold bt; rw [Int32.toBitVec_and, BitVec.getLsbD_and]
theorem b_xor (x y : Int32) (i : Nat) : bt (x ^^^ y) i = (bt x i ^^ bt y i) := by unfold bt; rw [Int32.toBitVec_xor, BitVec.getLsbD_xor]
theorem b_big {x : Int32} {i : Nat} (h : 32 ≤ i) : bt x i = false := BitVec.getLsbD_of_ge _ _ h
theorem b_m1 : ∀ i, i < 32 → bt (-1) i = true := by decide +kernel
theorem b_0 (i : Nat) : bt 0 i = false := BitVec.getLsbD_zero
theorem s_l : ∀ n, n < 32 → ((nI n &&& 31).toBitVec.smod 32).toNat = n := by decide +kernel
theorem b_shl (n : Nat) (hn : n < 32) (x : Int32) {i : Nat} (hi : i < 32) : bt (x <<< (nI n &&& 31)) i = (decide (n ≤ i) && bt x (i - n)) := by
  unfold bt
  rw [Int32.toBitVec_shiftLeft]
  show (x.toBitVec <<< ((nI n &&& 31).toBitVec.smod 32).toNat).getLsbD i = _
  rw [s_l n hn, BitVec.getLsbD_shiftLeft]
  rcases Nat.lt_or_ge i n with h | h
  · simp [h, Nat.not_le.mpr h]
  · simp [hi, h, Nat.not_lt.mpr h]
theorem b_sshr (n : Nat) (hn : n < 32) (x : Int32) {i : Nat} (hi : i < 32) : bt (x >>> (nI n &&& 31)) i = if n + i < 32 then bt x (n + i) else bt x 31 := by
  unfold bt
  rw [Int32.toBitVec_shiftRight]
  show (x.toBitVec.sshiftRight ((nI n &&& 31).toBitVec.smod 32).toNat).getLsbD i = _
  rw [s_l n hn, BitVec.getLsbD_sshiftRight, BitVec.msb_eq_getLsbD_last]
  simp [hi]
theorem pk_us {f : Nat → Int32} {k : Nat} {x : Int32} : upd f k x k = x := if_pos rfl
theorem pk_un {f : Nat → Int32} {k j : Nat} {x : Int32} (h : j ≠ k) : upd f k x j = f j := if_neg h
theorem pk_ix (x : Int32) {n : Nat} (hn : n < 2 ^ 31) : x < 0 ∨ nI n ≤ x ∨ ∃ j : Nat, j < n ∧ x = nI j := by
  by_cases h : x < 0
  · exact Or.inl h
  · obtain ⟨j, hj, rfl⟩ := nI_of h
    by_cases h2 : j < n
    · exact Or.inr (Or.inr ⟨j, h2, rfl⟩)
    · exact Or.inr (Or.inl (nI_le (by omega) hj))
theorem pk_le {x y : Int32} {A B : Prop} (a b : Nat) (f : a ≤ b → A) (g : b < a → B) (hx : x = nI a := by rfl) (hy : y = nI b := by rfl) (ha : a < 2 ^ 31 := by omega) (hb : b < 2 ^ 31 := by omega) : (x ≤ y → A) ∧ (¬ x ≤ y → B) := by
  subst hx hy
  rw [nI_leI ha hb]
  exact ⟨f, fun z => g (by omega)⟩
theorem pk_lt {x y : Int32} {A B : Prop} (a b : Nat) (f : a < b → A) (g : b ≤ a → B) (hx : x = nI a := by rfl) (hy : y = nI b := by rfl) (ha : a < 2 ^ 31 := by omega) (hb : b < 2 ^ 31 := by omega) : (x < y → A) ∧ (¬ x < y → B) := by
  subst hx hy
  rw [nI_ltI ha hb]
  exact ⟨f, fun z => g (by omega)⟩
theorem pk_eq {x y : Int32} {A B : Prop} (a b : Nat) (f : a = b → A) (g : a ≠ b → B) (hx : x = nI a := by rfl) (hy : y = nI b := by rfl) (ha : a < 2 ^ 31 := by omega) (hb : b < 2 ^ 31 := by omega) : (x = y → A) ∧ (¬ x = y → B) := by
  subst hx hy
  rw [nI_eq ha hb]
  exact ⟨f, g⟩
theorem pk_in {x : Int32} (n N : Nat) (h : n < N) (hx : x = nI n := by rfl) (hN : N < 2 ^ 31 := by omega) : vp_in x N := by
  subst hx
  exact vp_in_nI h hN
/-! ===== one bit: test, set, clear ===== -/
theorem hv_b1 : ∀ i, i < 32 → bt 1 i = decide (i = 0) := by decide +kernel
theorem hv_1 : ∀ n, n < 32 → ∀ i, i < 32 → bt ((1 : Int32) <<< (nI n &&& 31)) i = decide (i = n) := by decide +kernel
theorem hv_not (x : Int32) {i : Nat} (hi : i < 32) : bt (x ^^^ (-1)) i = !bt x i := by
  rw [b_xor, b_m1 i hi]
  cases bt x i <;> rfl
theorem hv_lt32 {x : Int32} {i : Nat} (h : bt x i = true) : i < 32 := by
  rcases Nat.lt_or_ge i 32 with z | z
  · exact z
  · rw [b_big z] at h; cases h
theorem hv_get (s : Int32) {j : Nat} (hj : j < 32) : (s >>> (nI j &&& 31)) &&& 1 = if bt s j = true then 1 else 0 := by
  apply b_ext
  intro i hi
  rw [b_and, b_sshr j hj s hi, hv_b1 i hi]
  rcases Nat.eq_zero_or_pos i with h | h
  · subst h
    rw [if_pos (show j + 0 < 32 by omega)]
    cases z : bt s j
    · simp [z, b_0]
    · simp [z, hv_b1 0 hi]
  · rw [decide_eq_false (by omega), Bool.and_false]
    cases z : bt s j
    · simp [b_0]
    · simp only [if_true]; rw [hv_b1 i hi, decide_eq_false (by omega)]
theorem hv_gt {s : Int32} {j : Nat} (hj : j < 32) (h : bt s j = true) : (s >>> (nI j &&& 31)) &&& 1 = 1 := by rw [hv_get s hj, if_pos h]
theorem hv_gf {s : Int32} {j : Nat} (hj : j < 32) (h : bt s j = false) : (s >>> (nI j &&& 31)) &&& 1 = 0 := by rw [hv_get s hj, if_neg (by rw [h]; decide)]
theorem hv_gn {s : Int32} {j : Nat} (hj : j < 32) (h : bt s j = false) : ¬ (s >>> (nI j &&& 31)) &&& 1 = 1 := by rw [hv_gf hj h]; decide
theorem hv_gz {s : Int32} {j : Nat} (hj : j < 32) (h : bt s j = true) : ¬ (s >>> (nI j &&& 31)) &&& 1 = 0 := by rw [hv_gt hj h]; decide
theorem hv_16 {i : Nat} (h : i < 16) : ¬ (16 : Int32) ≤ nI i := nI_ge (b := 16) h (by decide)
theorem hv_16e : (16 : Int32) ≤ nI 16 := by decide
theorem hv_neg {i : Nat} (h : i < 16) : ¬ nI i < 0 := nI_pos (by omega)
theorem hv_cl {i : Nat} (h : i < 16) : (nI i).toNatClampNeg = i := nI_clamp (by omega)
theorem hv_in16 {i : Nat} (h : i < 16) : vp_in (nI i) 16 := vp_in_nI h (by decide)
theorem hv_10 : ¬ (1 : Int32) = 0 := by decide
def hv_b (b : Bool) : Int32 := if b = true then 1 else 0
theorem hv_bn (b : Bool) : narrow .boolean (.int (hv_b b)) = .int (hv_b b) := by cases b <;> rfl
/-! ===== what is reached: 16 rounds of 16 steps ===== -/
def hv_in (r : Nat → Int32) (m s : Int32) : Nat → Int32
  | 0 => s
  | i + 1 => if bt (hv_in r m s i) i = true then hv_in r m s i ||| (r i &&& m) else hv_in r m s i
def hv_out (r : Nat → Int32) (m s : Int32) : Nat → Int32
  | 0 => s
  | k + 1 => hv_in r m (hv_out r m s k) 16
theorem hv_in_t {r : Nat → Int32} {m s : Int32} {i : Nat} (h : bt (hv_in r m s i) i = true) : hv_in r m s (i + 1) = hv_in r m s i ||| (r i &&& m) := if_pos h
theorem hv_in_f {r : Nat → Int32} {m s : Int32} {i : Nat} (h : bt (hv_in r m s i) i = false) : hv_in r m s (i + 1) = hv_in r m s i := if_neg (by rw [h]; decide)
theorem hv_in_c {r : Nat → Int32} {m m' : Int32} (s : Int32) (h : ∀ a, a < 16 → r a &&& m = r a &&& m') : ∀ i, i ≤ 16 → hv_in r m s i = hv_in r m' s i := by
  intro i
  induction i with
  | zero => intro _; rfl
  | succ i ih =>
    intro hi
    have e := ih (by omega)
    have e2 := h i (by omega)
    show (if bt (hv_in r m s i) i = true then hv_in r m s i ||| (r i &&& m) else hv_in r m s i) = (if bt (hv_in r m' s i) i = true then hv_in r m' s i ||| (r i &&& m') else hv_in r m' s i)
    rw [e, e2]
theorem hv_out_c {r : Nat → Int32} {m m' : Int32} (s : Int32) (h : ∀ a, a < 16 → r a &&& m = r a &&& m') : ∀ k, hv_out r m s k = hv_out r m' s k := by
  intro k
  induction k with
  | zero => rfl
  | succ k ih =>
    show hv_in r m (hv_out r m s k) 16 = hv_in r m' (hv_out r m' s k) 16
    rw [ih, hv_in_c _ h 16 (Nat.le_refl _)]
theorem hv_in_m {r : Nat → Int32} {m s : Int32} {j : Nat} (h : bt s j = true → bt m j = true) : ∀ i, bt (hv_in r m s i) j = true → bt m j = true := by
  intro i
  induction i with
  | zero => exact h
  | succ i ih =>
    cases z : bt (hv_in r m s i) i
    · rw [hv_in_f z]; exact ih
    · rw [hv_in_t z, b_or, b_and]
      intro g
      cases g1 : bt (hv_in r m s i) j
      · rw [g1] at g
        cases g2 : bt m j
        · rw [g2] at g; simp at g
        · rfl
      · exact ih g1
theorem hv_out_m {r : Nat → Int32} {m s : Int32} {j : Nat} (h : bt s j = true → bt m j = true) : ∀ k, bt (hv_out r m s k) j = true → bt m j = true := by
  intro k
  induction k with
  | zero => exact h
  | succ k ih => exact hv_in_m ih 16
theorem hv_in_u {r : Nat → Int32} {m s : Int32} {j : Nat} : ∀ i, bt (hv_in r m s i) j = false → bt s j = false := by
  intro i
  induction i with
  | zero => exact id
  | succ i ih =>
    cases z : bt (hv_in r m s i) i
    · rw [hv_in_f z]; exact ih
    · rw [hv_in_t z, b_or]
      intro g
      exact ih (Bool.or_eq_false_iff.mp g).1
theorem hv_in_d {r : Nat → Int32} {m m' s : Int32} {a : Nat} (ha : bt m' a = false) (hm : ∀ j, j < 32 → j ≠ a → bt m' j = bt m j) : ∀ i, bt (hv_in r m s i) a = false → hv_in r m' s i = hv_in r m s i := by
  intro i
  induction i with
  | zero => intro _; rfl
  | succ i ih =>
    cases z : bt (hv_in r m s i) i
    · rw [hv_in_f z]
      intro g
      have e := ih g
      rw [hv_in_f (by rw [e]; exact z), e]
    · rw [hv_in_t z, b_or]
      intro g
      obtain ⟨g1, g2⟩ := Bool.or_eq_false_iff.mp g
      have e := ih g1
      rw [hv_in_t (by rw [e]; exact z), e]
      have e3 : r i &&& m' = r i &&& m := by
        apply b_ext
        intro j hj
        by_cases q : j = a
        · subst q; rw [g2, b_and, ha, Bool.and_false]
        · rw [b_and, b_and, hm j hj q]
      rw [e3]
theorem hv_out_d {r : Nat → Int32} {m m' s : Int32} {a : Nat} (ha : bt m' a = false) (hm : ∀ j, j < 32 → j ≠ a → bt m' j = bt m j) : ∀ k, bt (hv_out r m s k) a = false → hv_out r m' s k = hv_out r m s k ∧ bt s a = false := by
  intro k
  induction k with
  | zero => intro h; exact ⟨rfl, h⟩
  | succ k ih =>
    intro h
    have h2 : bt (hv_out r m s k) a = false := hv_in_u 16 h
    obtain ⟨e, es⟩ := ih h2
    refine ⟨?_, es⟩
    show hv_in r m' (hv_out r m' s k) 16 = hv_in r m (hv_out r m s k) 16
    rw [e]
    exact hv_in_d ha hm 16 h
/-! ===== the live objects, what is reached without x, what x keeps ===== -/
def hv_L (e ro : Int32) (r : Nat → Int32) : Int32 := hv_out r e (ro &&& e) 16
def hv_M (e : Int32) (x : Nat) : Int32 := e &&& (((1 : Int32) <<< (nI x &&& 31)) ^^^ (-1))
def hv_Q (e ro : Int32) (r : Nat → Int32) (x : Nat) : Int32 := hv_out r (hv_M e x) (ro &&& hv_M e x) 16
def hv_K (e ro : Int32) (r : Nat → Int32) (x : Nat) : Int32 := hv_L e ro r &&& (hv_Q e ro r x ^^^ (-1))
theorem hv_Mb (e : Int32) {x j : Nat} (hx : x < 32) (hj : j < 32) : bt (hv_M e x) j = (bt e j && !decide (j = x)) := by
  unfold hv_M
  rw [b_and, hv_not _ hj, hv_1 x hx j hj]
theorem hv_L_e {e ro : Int32} {r : Nat → Int32} {j : Nat} (h : bt (hv_L e ro r) j = true) : bt e j = true := by
  refine hv_out_m (s := ro &&& e) ?_ 16 h
  rw [b_and]
  intro g
  exact (Bool.and_eq_true_iff.mp g).2
theorem hv_K_L {e ro : Int32} {r : Nat → Int32} {x j : Nat} (h : bt (hv_K e ro r x) j = true) : bt (hv_L e ro r) j = true := by
  unfold hv_K at h
  rw [b_and] at h
  exact (Bool.and_eq_true_iff.mp h).1
theorem hv_K_dead {e ro : Int32} {r : Nat → Int32} {a : Nat} (ha : a < 32) (h : bt (hv_L e ro r) a = false) : hv_K e ro r a = 0 := by
  have h1 : bt (hv_M e a) a = false := by rw [hv_Mb e ha ha]; simp
  have h2 : ∀ j, j < 32 → j ≠ a → bt (hv_M e a) j = bt e j := by
    intro j hj q
    rw [hv_Mb e ha hj, decide_eq_false q]
    simp
  obtain ⟨e1, e2⟩ := hv_out_d h1 h2 16 h
  have e3 : ro &&& hv_M e a = ro &&& e := by
    apply b_ext
    intro j hj
    by_cases q : j = a
    · subst q; rw [e2, b_and, h1, Bool.and_false]
    · rw [b_and, b_and, h2 j hj q]
  have e4 : hv_Q e ro r a = hv_L e ro r := by
    unfold hv_Q
    rw [e3]
    exact e1
  unfold hv_K
  rw [e4]
  apply b_ext
  intro j hj
  rw [b_and, hv_not _ hj, b_0]
  cases bt (hv_L e ro r) j <;> rfl
theorem hv_K_self {e ro : Int32} {r : Nat → Int32} {x : Nat} (h : bt (hv_L e ro r) x = true) : bt (hv_K e ro r x) x = true := by
  have hx := hv_lt32 h
  unfold hv_K
  rw [b_and, hv_not _ hx, h]
  have h1 : bt (hv_M e x) x = false := by rw [hv_Mb e hx hx]; simp
  have h2 : bt (hv_Q e ro r x) x = false := by
    cases z : bt (hv_Q e ro r x) x
    · rfl
    · have := hv_out_m (r := r) (m := hv_M e x) (s := ro &&& hv_M e x) (j := x) (by rw [b_and]; intro g; exact (Bool.and_eq_true_iff.mp g).2) 16 z
      rw [h1] at this
      cases this
  rw [h2]
  rfl
