/-! ===== counts, first hits, all, sums ===== -/
def hv_cn (p : Nat → Bool) : Nat → Nat
  | 0 => 0
  | i + 1 => if p i = true then hv_cn p i + 1 else hv_cn p i
theorem hv_cn_t {p : Nat → Bool} {i : Nat} (h : p i = true) : hv_cn p (i + 1) = hv_cn p i + 1 := if_pos h
theorem hv_cn_f {p : Nat → Bool} {i : Nat} (h : p i = false) : hv_cn p (i + 1) = hv_cn p i := if_neg (by rw [h]; decide)
theorem hv_cn_c {p q : Nat → Bool} : ∀ i, (∀ a, a < i → p a = q a) → hv_cn p i = hv_cn q i := by
  intro i
  induction i with
  | zero => intro _; rfl
  | succ i ih =>
    intro h
    show (if p i = true then hv_cn p i + 1 else hv_cn p i) = (if q i = true then hv_cn q i + 1 else hv_cn q i)
    rw [ih (fun a ha => h a (by omega)), h i (by omega)]
theorem hv_cn_le (p : Nat → Bool) : ∀ i, hv_cn p i ≤ i := by
  intro i
  induction i with
  | zero => exact Nat.le_refl _
  | succ i ih =>
    cases z : p i
    · rw [hv_cn_f z]; omega
    · rw [hv_cn_t z]; omega
theorem hv_cn_m {p q : Nat → Bool} : ∀ i, (∀ a, a < i → p a = true → q a = true) → hv_cn p i ≤ hv_cn q i := by
  intro i
  induction i with
  | zero => intro _; exact Nat.le_refl _
  | succ i ih =>
    intro h
    have e := ih (fun a ha => h a (by omega))
    cases z : p i
    · rw [hv_cn_f z]
      cases y : q i
      · rw [hv_cn_f y]; exact e
      · rw [hv_cn_t y]; omega
    · rw [hv_cn_t z, hv_cn_t (h i (by omega) z)]; omega
theorem hv_cn_lt {p q : Nat → Bool} {b : Nat} (hp : p b = false) (hq : q b = true) : ∀ i, b < i → (∀ a, a < i → p a = true → q a = true) → hv_cn p i < hv_cn q i := by
  intro i
  induction i with
  | zero => intro h; omega
  | succ i ih =>
    intro hb h
    by_cases e : b = i
    · subst e
      rw [hv_cn_f hp, hv_cn_t hq]
      have := hv_cn_m b (fun a ha => h a (by omega))
      omega
    · have g := ih (by omega) (fun a ha => h a (by omega))
      cases z : p i
      · rw [hv_cn_f z]
        cases y : q i
        · rw [hv_cn_f y]; exact g
        · rw [hv_cn_t y]; omega
      · rw [hv_cn_t z, hv_cn_t (h i (by omega) z)]; omega
theorem hv_cn_1 {p q : Nat → Bool} {b : Nat} (hp : p b = false) (hq : q b = true) : ∀ i, b < i → (∀ a, a < i → a ≠ b → q a = p a) → hv_cn q i = hv_cn p i + 1 := by
  intro i
  induction i with
  | zero => intro h; omega
  | succ i ih =>
    intro hb h
    by_cases e : b = i
    · subst e
      rw [hv_cn_f hp, hv_cn_t hq, hv_cn_c b (fun a ha => h a (by omega) (by omega))]
    · have g := ih (by omega) (fun a ha => h a (by omega))
      have h2 := h i (by omega) (by omega)
      cases z : p i
      · rw [z] at h2; rw [hv_cn_f z, hv_cn_f h2]; exact g
      · rw [z] at h2; rw [hv_cn_t z, hv_cn_t h2, g]
theorem hv_cn_0 {p : Nat → Bool} : ∀ i, (∀ a, a < i → p a = false) → hv_cn p i = 0 := by
  intro i
  induction i with
  | zero => intro _; rfl
  | succ i ih => intro h; rw [hv_cn_f (h i (by omega))]; exact ih (fun a ha => h a (by omega))
def hv_fst (p : Nat → Bool) : Nat → Nat → Int32
  | 0, _ => -1
  | d + 1, i => if p i = true then nI i else hv_fst p d (i + 1)
theorem hv_fst_t {p : Nat → Bool} {d i : Nat} (h : p i = true) : hv_fst p (d + 1) i = nI i := if_pos h
theorem hv_fst_f {p : Nat → Bool} {d i : Nat} (h : p i = false) : hv_fst p (d + 1) i = hv_fst p d (i + 1) := if_neg (by rw [h]; decide)
theorem hv_fst_c {p q : Nat → Bool} : ∀ d i, (∀ a, i ≤ a → a < i + d → p a = q a) → hv_fst p d i = hv_fst q d i := by
  intro d
  induction d with
  | zero => intro _ _; rfl
  | succ d ih =>
    intro i h
    show (if p i = true then nI i else hv_fst p d (i + 1)) = (if q i = true then nI i else hv_fst q d (i + 1))
    rw [h i (by omega) (by omega), ih (i + 1) (fun a h1 h2 => h a (by omega) (by omega))]
theorem hv_fst_h {p : Nat → Bool} {b : Nat} (hb : p b = true) : ∀ d i, i ≤ b → b < i + d → (∀ a, i ≤ a → a < i + d → p a = true → a = b) → hv_fst p d i = nI b := by
  intro d
  induction d with
  | zero => intro i h1 h2; omega
  | succ d ih =>
    intro i h1 h2 h
    cases z : p i
    · rw [hv_fst_f z]
      have : i ≠ b := by intro e; subst e; rw [hb] at z; cases z
      exact ih (i + 1) (by omega) (by omega) (fun a h3 h4 => h a (by omega) (by omega))
    · rw [hv_fst_t z, h i (by omega) (by omega) z]
theorem hv_fst_n {p : Nat → Bool} : ∀ d i, (∀ a, i ≤ a → a < i + d → p a = false) → hv_fst p d i = -1 := by
  intro d
  induction d with
  | zero => intro _ _; rfl
  | succ d ih =>
    intro i h
    rw [hv_fst_f (h i (by omega) (by omega))]
    exact ih (i + 1) (fun a h1 h2 => h a (by omega) (by omega))
def hv_all (q : Nat → Bool) : Nat → Bool
  | 0 => true
  | i + 1 => hv_all q i && q i
theorem hv_all_i {q : Nat → Bool} : ∀ i, hv_all q i = true ↔ ∀ a, a < i → q a = true := by
  intro i
  induction i with
  | zero => exact ⟨fun _ a h => absurd h (Nat.not_lt_zero a), fun _ => rfl⟩
  | succ i ih =>
    show (hv_all q i && q i) = true ↔ _
    rw [Bool.and_eq_true_iff, ih]
    constructor
    · intro ⟨h1, h2⟩ a ha
      by_cases e : a = i
      · subst e; exact h2
      · exact h1 a (by omega)
    · intro h
      exact ⟨fun a ha => h a (by omega), h i (by omega)⟩
def hv_sum (s : Int32) (z : Nat → Int32) : Nat → Int32
  | 0 => 0
  | i + 1 => if bt s i = true then hv_sum s z i + z i else hv_sum s z i
theorem hv_sum_t {s : Int32} {z : Nat → Int32} {i : Nat} (h : bt s i = true) : hv_sum s z (i + 1) = hv_sum s z i + z i := if_pos h
theorem hv_sum_f {s : Int32} {z : Nat → Int32} {i : Nat} (h : bt s i = false) : hv_sum s z (i + 1) = hv_sum s z i := if_neg (by rw [h]; decide)
theorem hv_sum_0 (z : Nat → Int32) : ∀ i, hv_sum 0 z i = 0 := by
  intro i
  induction i with
  | zero => rfl
  | succ i ih => rw [hv_sum_f (b_0 i), ih]
theorem hv_sum_n {s : Int32} {z : Nat → Int32} (h : ∀ a, a < 16 → bt s a = true → ∃ w, 1 ≤ w ∧ w ≤ 100 ∧ z a = nI w) : ∀ i, i ≤ 16 → ∃ w, w ≤ 100 * i ∧ hv_sum s z i = nI w ∧ (∀ a, a < i → bt s a = true → 1 ≤ w) := by
  intro i
  induction i with
  | zero => intro _; exact ⟨0, by omega, rfl, fun a ha => absurd ha (Nat.not_lt_zero a)⟩
  | succ i ih =>
    intro hi
    obtain ⟨w, h1, h2, h3⟩ := ih (by omega)
    cases g : bt s i
    · refine ⟨w, by omega, by rw [hv_sum_f g, h2], ?_⟩
      intro a ha hb
      by_cases e : a = i
      · subst e; rw [g] at hb; cases hb
      · exact h3 a (by omega) hb
    · obtain ⟨y, y1, y2, y3⟩ := h i (by omega) g
      refine ⟨w + y, by omega, by rw [hv_sum_t g, h2, y3, nI_add], ?_⟩
      intro a ha hb
      omega
/-! ===== the order of suspects: heavier first, then the lesser number ===== -/
def hv_bf (w : Nat → Nat) (z y : Nat) : Bool := decide (w y < w z) || (decide (w z = w y) && decide (z < y))
theorem hv_bf_i {w : Nat → Nat} {z y : Nat} : hv_bf w z y = true ↔ (w y < w z ∨ (w z = w y ∧ z < y)) := by
  unfold hv_bf
  simp
def hv_rk (S : Nat → Bool) (w : Nat → Nat) (y : Nat) : Nat := hv_cn (fun z => S z && hv_bf w z y) 16
theorem hv_rk_u {S : Nat → Bool} {w : Nat → Nat} {x y : Nat} (hx : x < 16) (hy : y < 16) (sx : S x = true) (sy : S y = true) (h : hv_rk S w x = hv_rk S w y) : x = y := by
  have key : ∀ a b, a < 16 → S a = true → hv_bf w a b = true → hv_rk S w a < hv_rk S w b := by
    intro a b ha sa hab
    have hab' := hv_bf_i.mp hab
    refine hv_cn_lt (b := a) ?_ ?_ 16 ha ?_
    · have : hv_bf w a a = false := by
        cases z : hv_bf w a a
        · rfl
        · have := hv_bf_i.mp z; omega
      simp [this]
    · simp [sa, hab]
    · intro c hc h1
      have h1 : (S c && hv_bf w c a) = true := h1
      obtain ⟨g1, g2⟩ := Bool.and_eq_true_iff.mp h1
      have g3 := hv_bf_i.mp g2
      show (S c && hv_bf w c b) = true
      rw [g1, hv_bf_i.mpr (by omega)]
      rfl
  by_cases e : x = y
  · exact e
  · rcases Nat.lt_trichotomy (w x) (w y) with g | g | g
    · have := key y x hy sy (hv_bf_i.mpr (by omega)); omega
    · by_cases e2 : x < y
      · have := key x y hx sx (hv_bf_i.mpr (by omega)); omega
      · have := key y x hy sy (hv_bf_i.mpr (by omega)); omega
    · have := key x y hx sx (hv_bf_i.mpr (by omega)); omega
theorem hv_rk_lt {S : Nat → Bool} {w : Nat → Nat} {y : Nat} (hy : y < 16) (sy : S y = true) : hv_rk S w y < hv_cn S 16 := by
  refine hv_cn_lt (b := y) ?_ sy 16 hy ?_
  · have : hv_bf w y y = false := by
      cases z : hv_bf w y y
      · rfl
      · have := hv_bf_i.mp z; omega
    simp [this]
  · intro c hc h1
    exact (Bool.and_eq_true_iff.mp h1).1
/-- left after j takes: T is what is left of S -/
def hv_Sel (S T : Nat → Bool) (w : Nat → Nat) (j : Nat) : Prop :=
  (∀ a, a < 16 → T a = true → S a = true) ∧ hv_cn (fun a => S a && !T a) 16 = j ∧ ∀ a b, a < 16 → b < 16 → S a = true → T a = false → T b = true → hv_bf w a b = true
/-- h is the top of T -/
def hv_Top (T : Nat → Bool) (w : Nat → Nat) (h : Nat) : Prop := h < 16 ∧ T h = true ∧ ∀ a, a < 16 → T a = true → a ≠ h → hv_bf w h a = true
theorem hv_Sel_0 (S : Nat → Bool) (w : Nat → Nat) : hv_Sel S S w 0 := by
  refine ⟨fun a _ h => h, hv_cn_0 16 (fun a _ => by cases S a <;> rfl), fun a b _ _ h1 h2 => by rw [h1] at h2; cases h2⟩
theorem hv_Sel_r {S T : Nat → Bool} {w : Nat → Nat} {j h : Nat} (A : hv_Sel S T w j) (B : hv_Top T w h) : S h = true ∧ hv_rk S w h = j := by
  obtain ⟨a1, a2, a3⟩ := A
  obtain ⟨b1, b2, b3⟩ := B
  refine ⟨a1 h b1 b2, ?_⟩
  rw [← a2]
  refine hv_cn_c 16 (fun a ha => ?_)
  show (S a && hv_bf w a h) = (S a && !T a)
  cases sa : S a
  · rfl
  · cases ta : T a
    · rw [a3 a h ha b1 sa ta b2]; rfl
    · have : hv_bf w a h = false := by
        cases z : hv_bf w a h
        · rfl
        · have g1 := hv_bf_i.mp z
          by_cases e : a = h
          · subst e; omega
          · have g2 := hv_bf_i.mp (b3 a ha ta e); omega
      rw [this]; rfl
theorem hv_Sel_s {S T T' : Nat → Bool} {w : Nat → Nat} {j h : Nat} (A : hv_Sel S T w j) (B : hv_Top T w h) (hT : T' h = false) (hT2 : ∀ a, a < 16 → a ≠ h → T' a = T a) : hv_Sel S T' w (j + 1) := by
  obtain ⟨a1, a2, a3⟩ := A
  obtain ⟨b1, b2, b3⟩ := B
  refine ⟨?_, ?_, ?_⟩
  · intro a ha ta
    by_cases e : a = h
    · subst e; rw [hT] at ta; cases ta
    · rw [hT2 a ha e] at ta; exact a1 a ha ta
  · rw [← a2]
    refine hv_cn_1 (b := h) ?_ ?_ 16 b1 ?_
    · simp [b2]
    · simp [hT, a1 h b1 b2]
    · intro a ha e
      show (S a && !T' a) = (S a && !T a)
      rw [hT2 a ha e]
  · intro a b ha hb sa ta tb
    have eb : b ≠ h := by intro e; subst e; rw [hT] at tb; cases tb
    rw [hT2 b hb eb] at tb
    by_cases e : a = h
    · subst e; exact b3 b hb tb eb
    · rw [hT2 a ha e] at ta
      exact a3 a b ha hb sa ta tb
theorem hv_Sel_ne {S T : Nat → Bool} {w : Nat → Nat} {j : Nat} (A : hv_Sel S T w j) (hj : j < hv_cn S 16) : ∃ a, a < 16 ∧ T a = true := by
  apply Classical.byContradiction
  intro hn
  have : hv_cn (fun a => S a && !T a) 16 = hv_cn S 16 := by
    refine hv_cn_c 16 (fun a ha => ?_)
    have : T a = false := by
      cases z : T a
      · rfl
      · exact absurd ⟨a, ha, z⟩ hn
    show (S a && !T a) = S a
    rw [this]; simp
  have := A.2.1
  omega
