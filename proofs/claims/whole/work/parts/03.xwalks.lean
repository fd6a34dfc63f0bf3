/-! ===== the relation ===== -/
def hv_ok (c e ro : Int32) (sz rf : Nat → Int32) : Prop :=
  (∃ n, 1 ≤ n ∧ n ≤ 16 ∧ c = nI n) ∧ (∀ j, bt e j = true → j < 16) ∧ (∀ j, bt ro j = true → bt e j = true) ∧ (∀ a, a < 16 → ∀ j, bt (rf a) j = true → bt e j = true) ∧ (∀ a, a < 16 → bt e a = false → rf a = 0) ∧ (∀ a, a < 16 → bt e a = true → ∃ w, 1 ≤ w ∧ w ≤ 100 ∧ sz a = nI w)
def i_Rel (_ : Nat) (u : SX) (v : SY) : Prop := ∃ (c e ro : Int32) (sz rf hd : Nat → Int32), u = (c, e, ro, sz, rf) ∧ v = (c, e, ro, sz, rf, hd) ∧ hv_ok c e ro sz rf
theorem i_up {k : Nat} {u : SX} {v : SY} (h : i_Rel k u v) : i_Rel (k + 3) u v := h
theorem hv_mk {c e ro : Int32} {sz rf : Nat → Int32} (k : Nat) (hd : Nat → Int32) (h : hv_ok c e ro sz rf) : i_Rel k (c, e, ro, sz, rf) (c, e, ro, sz, rf, hd) := ⟨c, e, ro, sz, rf, hd, rfl, rfl, h⟩
def hv_ex (s v : Int32) : Prop := ∃ x, x < 16 ∧ v = nI x ∧ bt s x = true
theorem hv_nex {s : Int32} {x : Nat} (hx : x < 16) (h : ¬ hv_ex s (nI x)) : bt s x = false := by
  cases z : bt s x
  · rfl
  · exact absurd ⟨x, hx, rfl, z⟩ h
theorem hv_me {e s g m : Int32} (hs : ∀ j, bt s j = true → bt e j = true) (hm : ∀ j, j < 32 → bt e j = true → bt m j = !bt g j) : s &&& (g ^^^ (-1)) = s &&& m := by
  apply b_ext
  intro j hj
  rw [b_and, b_and, hv_not g hj]
  cases z : bt s j
  · rfl
  · rw [hm j hj (hs j z)]
theorem hv_oute {c e ro : Int32} {sz rf : Nat → Int32} (ok : hv_ok c e ro sz rf) {g m : Int32} (hm : ∀ j, j < 32 → bt e j = true → bt m j = !bt g j) : hv_out rf (g ^^^ (-1)) (ro &&& (g ^^^ (-1))) 16 = hv_out rf m (ro &&& m) 16 := by
  rw [hv_me ok.2.2.1 hm]
  exact hv_out_c _ (fun a ha => hv_me (ok.2.2.2.1 a ha) hm) 16
/-! ===== the component's walks ===== -/
theorem hx_t {post : Int32 → Prop} {s : Int32} {j : Nat} (hj : j < 16) (h : bt s j = true) (p : post 1) : wpX_has post s (nI j) := br_f (hv_gz (by omega) h) p
theorem hx_f {post : Int32 → Prop} {s : Int32} {j : Nat} (hj : j < 16) (h : bt s j = false) (p : post 0) : wpX_has post s (nI j) := br_t (hv_gf (by omega) h) p
theorem hx_in {post : Int32 → Prop} {J : Int32 → Int32 → Prop} {x1 x3 c e ro : Int32} {sz rf : Nat → Int32} (s : Int32) (hJ : J (hv_in rf (x1 ^^^ (-1)) s 16) (x3 + 1)) : ∀ d i, i + d = 16 → wX_reachedWithout_20 post J x1 x3 c e ro sz rf (d + 1) (hv_in rf (x1 ^^^ (-1)) s i) (nI i) := by
  intro d
  induction d with
  | zero =>
    intro i hi
    obtain rfl : i = 16 := by omega
    exact br_t hv_16e (nm_e hJ)
  | succ d ih =>
    intro i hi
    have h := ih (i + 1) (by omega)
    have hi' : i < 16 := by omega
    refine br_f (hv_16 hi') ?_
    cases z : bt (hv_in rf (x1 ^^^ (-1)) s i) i
    · rw [hv_in_f z] at h
      exact hx_f hi' z (br_t rfl (nm_r (nI_1 i) h))
    · rw [hv_in_t z] at h
      refine hx_t hi' z (br_f hv_10 ⟨hv_in16 hi', nm_r ?_ (nm_r (nI_1 i) h)⟩)
      rw [hv_cl hi']
theorem hx_out {post : Int32 → Prop} {x1 c e ro : Int32} {sz rf : Nat → Int32} (s : Int32) (hp : post (hv_out rf (x1 ^^^ (-1)) s 16)) : ∀ d k, k + d = 16 → wX_reachedWithout_11 post x1 c e ro sz rf (d + 1) (hv_out rf (x1 ^^^ (-1)) s k) (nI k) := by
  intro d
  induction d with
  | zero =>
    intro k hk
    obtain rfl : k = 16 := by omega
    exact br_t hv_16e hp
  | succ d ih =>
    intro k hk
    refine br_f (hv_16 (by omega)) ⟨17, hx_in (J := wX_reachedWithout_11 post x1 c e ro sz rf (d + 1)) (hv_out rf (x1 ^^^ (-1)) s k) ?_ 16 0 rfl⟩
    rw [nI_1]
    exact ih (k + 1) (by omega)
theorem hx_rw {post : Int32 → Prop} {c e ro : Int32} {sz rf : Nat → Int32} (g : Int32) (hp : post (hv_out rf (g ^^^ (-1)) (ro &&& (g ^^^ (-1))) 16)) : wpX_reachedWithout post (c, e, ro, sz, rf) g := nm_e ⟨17, hx_out _ hp 16 0 rfl⟩
theorem hx_L {post : Int32 → Prop} {c e ro : Int32} {sz rf : Nat → Int32} (ok : hv_ok c e ro sz rf) (hp : post (hv_L e ro rf)) : wpX_reachedWithout post (c, e, ro, sz, rf) 0 := by
  apply hx_rw
  rw [hv_oute ok (m := e) (fun j _ h => by rw [h, b_0]; rfl)]
  exact hp
theorem hx_Q {post : Int32 → Prop} {c e ro : Int32} {sz rf : Nat → Int32} (ok : hv_ok c e ro sz rf) {x : Nat} (hx : x < 16) (hp : post (hv_Q e ro rf x)) : wpX_reachedWithout post (c, e, ro, sz, rf) ((1 : Int32) <<< (nI x &&& 31)) := by
  apply hx_rw
  rw [hv_oute ok (m := hv_M e x) (fun j hj h => by rw [hv_Mb e (by omega) hj, h, hv_1 x (by omega) j hj]; rfl)]
  exact hp
theorem hx_ex1 {post : Int32 → Prop} {c e ro : Int32} {sz rf : Nat → Int32} {x : Nat} (hx : x < 16) (h : bt e x = true) (hp : post 1) : wpX_exists post (c, e, ro, sz, rf) (nI x) :=
  br_f (hv_neg hx) (br_f (hv_16 hx) (hx_t hx h (br_f hv_10 hp)))
theorem hx_ex0 {post : Int32 → Prop} {c e ro : Int32} {sz rf : Nat → Int32} {v : Int32} (h : ¬ hv_ex e v) (hp : post 0) : wpX_exists post (c, e, ro, sz, rf) v := by
  rcases pk_ix v (n := 16) (by decide) with g | g | ⟨x, hx, rfl⟩
  · exact br_t g hp
  · exact br_f (fun g' => absurd (Int32.lt_of_le_of_lt g g') (by decide)) (br_t g hp)
  · exact br_f (hv_neg hx) (br_f (hv_16 hx) (hx_f hx (hv_nex hx h) (br_t rfl hp)))
theorem hx_lv1 {post : Int32 → Prop} {c e ro : Int32} {sz rf : Nat → Int32} (ok : hv_ok c e ro sz rf) {x : Nat} (hx : x < 16) (h : bt (hv_L e ro rf) x = true) (hp : post 1) : wpX_isLive post (c, e, ro, sz, rf) (nI x) := by
  unfold wpX_isLive
  dsimp only
  exact hx_ex1 hx (hv_L_e h) (br_f hv_10 (hx_L ok (hx_t hx h ⟨rfl, hp⟩)))
theorem hx_lv0 {post : Int32 → Prop} {c e ro : Int32} {sz rf : Nat → Int32} (ok : hv_ok c e ro sz rf) {v : Int32} (h : ¬ hv_ex (hv_L e ro rf) v) (hp : post 0) : wpX_isLive post (c, e, ro, sz, rf) v := by
  unfold wpX_isLive
  dsimp only
  by_cases g : hv_ex e v
  · obtain ⟨x, hx, rfl, z⟩ := g
    exact hx_ex1 hx z (br_f hv_10 (hx_L ok (hx_f hx (hv_nex hx h) ⟨rfl, hp⟩)))
  · exact hx_ex0 g (br_t rfl hp)
theorem hx_K {post : Int32 → Prop} {c e ro : Int32} {sz rf : Nat → Int32} (ok : hv_ok c e ro sz rf) {x : Nat} (hx : x < 16) (hp : post (hv_K e ro rf x)) : wpX_keptBy post (c, e, ro, sz, rf) (nI x) := by
  unfold wpX_keptBy
  dsimp only
  exact hx_L ok (hx_Q ok hx hp)
def hv_D (e ro : Int32) (rf : Nat → Int32) (y : Nat) : Nat → Int32
  | 0 => 0
  | i + 1 => if bt (hv_K e ro rf i) y = true then hv_D e ro rf y i ||| ((1 : Int32) <<< (nI i &&& 31)) else hv_D e ro rf y i
theorem hv_D_t {e ro : Int32} {rf : Nat → Int32} {y i : Nat} (h : bt (hv_K e ro rf i) y = true) : hv_D e ro rf y (i + 1) = hv_D e ro rf y i ||| ((1 : Int32) <<< (nI i &&& 31)) := if_pos h
theorem hv_D_f {e ro : Int32} {rf : Nat → Int32} {y i : Nat} (h : bt (hv_K e ro rf i) y = false) : hv_D e ro rf y (i + 1) = hv_D e ro rf y i := if_neg (by rw [h]; decide)
theorem hv_Db (e ro : Int32) (rf : Nat → Int32) (y : Nat) : ∀ i, i ≤ 16 → ∀ a, a < 32 → bt (hv_D e ro rf y i) a = (decide (a < i) && bt (hv_K e ro rf a) y) := by
  intro i
  induction i with
  | zero => intro _ a _; exact b_0 a
  | succ i ih =>
    intro hi a ha
    have g := ih (by omega) a ha
    by_cases q : a = i
    · subst q
      rw [decide_eq_false (Nat.lt_irrefl a)] at g
      cases z : bt (hv_K e ro rf a) y
      · rw [hv_D_f z, g]; simp
      · rw [hv_D_t z, b_or, g, hv_1 a ha a ha]; simp
    · have q2 : decide (a < i + 1) = decide (a < i) := by by_cases w : a < i <;> simp [w] <;> omega
      rw [q2, ← g]
      cases z : bt (hv_K e ro rf i) y
      · rw [hv_D_f z]
      · rw [hv_D_t z, b_or, hv_1 i (by omega) a ha, decide_eq_false q, Bool.or_false]
theorem hx_D {post : Int32 → Prop} {c e ro : Int32} {sz rf : Nat → Int32} (ok : hv_ok c e ro sz rf) {y : Nat} (hy : y < 16) (hp : post (hv_D e ro rf y 16)) : wpX_dominatorsOf post (c, e, ro, sz, rf) (nI y) := by
  have key : ∀ d i, i + d = 16 → wX_dominatorsOf_4 post (nI y) c e ro sz rf (d + 1) (hv_D e ro rf y i) (nI i) := by
    intro d
    induction d with
    | zero =>
      intro i hi
      obtain rfl : i = 16 := by omega
      exact br_t hv_16e hp
    | succ d ih =>
      intro i hi
      have h := ih (i + 1) (by omega)
      have hi' : i < 16 := by omega
      refine br_f (hv_16 hi') (hx_K ok hi' ?_)
      cases z : bt (hv_K e ro rf i) y
      · rw [hv_D_f z] at h
        exact hx_f hy z (br_t rfl (nm_r (nI_1 i) h))
      · rw [hv_D_t z] at h
        exact hx_t hy z (br_f hv_10 (nm_e (nm_r (nI_1 i) h)))
  exact ⟨17, key 16 0 rfl⟩
def hv_pA (e ro : Int32) (rf : Nat → Int32) (s : Int32) (y : Nat) : Bool := bt s y && decide (s &&& (hv_D e ro rf y 16 ^^^ (-1)) = 0)
theorem hx_A {post : Int32 → Prop} {c e ro : Int32} {sz rf : Nat → Int32} (ok : hv_ok c e ro sz rf) (s : Int32) (hp : post (hv_fst (hv_pA e ro rf s) 16 0)) : wpX_dominatedByAll post (c, e, ro, sz, rf) s := by
  have key : ∀ d i, i + d = 16 → post (hv_fst (hv_pA e ro rf s) d i) → wX_dominatedByAll_2 post s c e ro sz rf (d + 1) (nI i) := by
    intro d
    induction d with
    | zero =>
      intro i hi hp
      obtain rfl : i = 16 := by omega
      exact br_t hv_16e hp
    | succ d ih =>
      intro i hi hp
      have hi' : i < 16 := by omega
      refine br_f (hv_16 hi') ?_
      cases z : bt s i
      · have g : hv_pA e ro rf s i = false := by unfold hv_pA; rw [z]; rfl
        rw [hv_fst_f g] at hp
        exact hx_f hi' z (br_t rfl (nm_r (nI_1 i) (ih (i + 1) (by omega) hp)))
      · refine hx_t hi' z (br_f hv_10 (hx_D ok hi' ?_))
        by_cases q : s &&& (hv_D e ro rf i 16 ^^^ (-1)) = 0
        · have g : hv_pA e ro rf s i = true := by unfold hv_pA; rw [z, decide_eq_true q]; rfl
          rw [hv_fst_t g] at hp
          exact br_t q hp
        · have g : hv_pA e ro rf s i = false := by unfold hv_pA; rw [z, decide_eq_false q]; rfl
          rw [hv_fst_f g] at hp
          exact br_f q (nm_r (nI_1 i) (ih (i + 1) (by omega) hp))
  exact ⟨17, key 16 0 rfl hp⟩
theorem hx_W {post : Int32 → Prop} {c e ro : Int32} {sz rf : Nat → Int32} (ok : hv_ok c e ro sz rf) {x : Nat} (hx : x < 16) (hp : post (hv_sum (hv_K e ro rf x) sz 16)) : wpX_sizeKeptBy post (c, e, ro, sz, rf) (nI x) := by
  have key : ∀ s, post (hv_sum s sz 16) → ∀ d i, i + d = 16 → wX_sizeKeptBy_11 post s c e ro sz rf (d + 1) (hv_sum s sz i) (nI i) := by
    intro s hp d
    induction d with
    | zero =>
      intro i hi
      obtain rfl : i = 16 := by omega
      exact br_t hv_16e hp
    | succ d ih =>
      intro i hi
      have h := ih (i + 1) (by omega)
      have hi' : i < 16 := by omega
      refine br_f (hv_16 hi') ?_
      cases z : bt s i
      · rw [hv_sum_f z] at h
        exact hx_f hi' z (br_t rfl (nm_r (nI_1 i) h))
      · rw [hv_sum_t z] at h
        refine hx_t hi' z (br_f hv_10 ⟨hv_in16 hi', nm_r ?_ (nm_r (nI_1 i) h)⟩)
        rw [hv_cl hi']
  unfold wpX_sizeKeptBy
  dsimp only
  exact hx_K ok hx ⟨17, key _ hp 16 0 rfl⟩
theorem hx_cn {post : Int32 → Prop} (s : Int32) (hp : post (nI (hv_cn (bt s) 16))) : wpX_countOf post s := by
  have key : ∀ d i, i + d = 16 → wX_countOf_4 post s (d + 1) (nI (hv_cn (bt s) i)) (nI i) := by
    intro d
    induction d with
    | zero =>
      intro i hi
      obtain rfl : i = 16 := by omega
      exact br_t hv_16e hp
    | succ d ih =>
      intro i hi
      have h := ih (i + 1) (by omega)
      have hi' : i < 16 := by omega
      refine br_f (hv_16 hi') ?_
      cases z : bt s i
      · rw [hv_cn_f z] at h
        exact hx_f hi' z (br_t rfl (nm_r (nI_1 i) h))
      · rw [hv_cn_t z] at h
        exact hx_t hi' z (br_f hv_10 (nm_r (nI_1 _) (nm_r (nI_1 i) h)))
  exact ⟨17, key 16 0 rfl⟩
