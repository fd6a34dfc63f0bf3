/-! ===== sweep: the dead ones at once, or one after another ===== -/
theorem hv_nn {s g h g' : Int32} (hg : ∀ j, j < 32 → bt g' j = (bt g j || bt h j)) : (s &&& (g ^^^ (-1))) &&& (h ^^^ (-1)) = s &&& (g' ^^^ (-1)) := by
  apply b_ext
  intro j hj
  rw [b_and, b_and, b_and, hv_not g hj, hv_not h hj, hv_not g' hj, hg j hj]
  cases bt s j <;> cases bt g j <;> cases bt h j <;> rfl
theorem hv_rm_c {rf : Nat → Int32} {g h g' : Int32} (hg : ∀ j, j < 32 → bt g' j = (bt g j || bt h j)) : hv_rm h (hv_rm g rf 16) 16 = hv_rm g' rf 16 := by
  funext a
  by_cases l : a < 16
  · have e1 : hv_rm h (hv_rm g rf 16) 16 a = if bt h a = true then 0 else hv_rm g rf 16 a &&& (h ^^^ (-1)) := if_pos l
    have e2 : hv_rm g rf 16 a = if bt g a = true then 0 else rf a &&& (g ^^^ (-1)) := if_pos l
    have e3 : hv_rm g' rf 16 a = if bt g' a = true then 0 else rf a &&& (g' ^^^ (-1)) := if_pos l
    rw [e1, e2, e3, hg a (by omega)]
    cases z1 : bt g a
    · cases z2 : bt h a
      · simp only [Bool.or_self, Bool.false_eq_true, if_false]
        exact hv_nn hg
      · simp
    · cases z2 : bt h a
      · simp
      · simp
  · have e1 : hv_rm h (hv_rm g rf 16) 16 a = hv_rm g rf 16 a := if_neg l
    have e2 : hv_rm g rf 16 a = rf a := if_neg l
    have e3 : hv_rm g' rf 16 a = rf a := if_neg l
    rw [e1, e2, e3]
theorem hv_a0 (s : Int32) : s &&& ((0 : Int32) ^^^ (-1)) = s := by
  apply b_ext
  intro j hj
  rw [b_and, hv_not _ hj, b_0]
  cases bt s j <;> rfl
theorem hv_rm_z (rf : Nat → Int32) : hv_rm 0 rf 16 = rf := by
  funext a
  unfold hv_rm
  by_cases l : a < 16
  · rw [if_pos l, if_neg (by rw [b_0]; decide), hv_a0]
  · rw [if_neg l]
def hv_G (g : Int32) : Nat → Int32
  | 0 => 0
  | i + 1 => if bt g i = true then hv_G g i ||| ((1 : Int32) <<< (nI i &&& 31)) else hv_G g i
theorem hv_G_t {g : Int32} {i : Nat} (h : bt g i = true) : hv_G g (i + 1) = hv_G g i ||| ((1 : Int32) <<< (nI i &&& 31)) := if_pos h
theorem hv_G_f {g : Int32} {i : Nat} (h : bt g i = false) : hv_G g (i + 1) = hv_G g i := if_neg (by rw [h]; decide)
theorem hv_Gb (g : Int32) : ∀ i, i ≤ 16 → ∀ j, j < 32 → bt (hv_G g i) j = (decide (j < i) && bt g j) := by
  intro i
  induction i with
  | zero => intro _ j _; exact b_0 j
  | succ i ih =>
    intro hi a ha
    have y := ih (by omega) a ha
    by_cases q : a = i
    · subst q
      rw [decide_eq_false (Nat.lt_irrefl a)] at y
      cases z : bt g a
      · rw [hv_G_f z, y]; simp
      · rw [hv_G_t z, b_or, y, hv_1 a ha a ha]; simp
    · have q2 : decide (a < i + 1) = decide (a < i) := by by_cases w : a < i <;> simp [w] <;> omega
      rw [q2, ← y]
      cases z : bt g i
      · rw [hv_G_f z]
      · rw [hv_G_t z, b_or, hv_1 i (by omega) a ha, decide_eq_false q, Bool.or_false]
theorem hy_sw {post : Int32 → SY → Prop} {c e ro : Int32} {sz rf hd : Nat → Int32} {g : Int32} (hg : ∀ j, bt g j = true → bt e j = true) (h16 : ∀ j, bt g j = true → j < 16) (hp : post (nI (hv_cn (bt g) 16)) (c, e &&& (g ^^^ (-1)), ro &&& (g ^^^ (-1)), sz, hv_rm g rf 16, hd)) : ∀ d i, i + d = 16 → wY_sweep_16 post g (d + 1) (nI (hv_cn (bt g) i)) (nI i) c (e &&& (hv_G g i ^^^ (-1))) (ro &&& (hv_G g i ^^^ (-1))) sz (hv_rm (hv_G g i) rf 16) hd := by
  intro d
  induction d with
  | zero =>
    intro i hi
    obtain rfl : i = 16 := by omega
    have eG : hv_G g 16 = g := by
      apply b_ext
      intro j hj
      rw [hv_Gb g 16 (Nat.le_refl _) j hj]
      cases z : bt g j
      · simp
      · rw [decide_eq_true (h16 j z)]; rfl
    rw [eG]
    exact br_t hv_16e hp
  | succ d ih =>
    intro i hi
    have h := ih (i + 1) (by omega)
    have hi' : i < 16 := by omega
    refine br_f (hv_16 hi') ?_
    cases z : bt g i
    · rw [hv_G_f z, hv_cn_f z] at h
      exact br_f (hv_gn (by omega) z) (nm_r (nI_1 i) h)
    · have hb : ∀ j, j < 32 → bt (hv_G g (i + 1)) j = (bt (hv_G g i) j || bt ((1 : Int32) <<< (nI i &&& 31)) j) := by
        intro j hj
        rw [hv_G_t z, b_or]
      have he : bt (e &&& (hv_G g i ^^^ (-1))) i = true := by
        rw [b_and, hg i z, hv_not _ (by omega), hv_Gb g i (by omega) i (by omega), decide_eq_false (Nat.lt_irrefl i)]
        rfl
      refine br_t (hv_gt (by omega) z) (hy_rm hi' he ?_)
      dsimp only
      rw [hv_nn hb, hv_nn hb, hv_rm_c hb]
      rw [hv_cn_t z] at h
      exact nm_r (nI_1 _) (nm_r (nI_1 i) h)
theorem i_vc_sweep {k : Nat} {u : SX} {v : SY} (I : i_Rel k u v) (hk : k + 3 ≤ 1537) : wpX_sweep (fun r u' => wpY_sweep (fun r' v' => r' = r ∧ i_Rel (k + 3) u' v') v) u := by
  obtain ⟨c, e, ro, sz, rf, hd, rfl, rfl, ok⟩ := I
  unfold wpX_sweep wpY_sweep
  dsimp only
  refine hx_L ok (nm_e (hx_rm _ ?_))
  dsimp only
  refine hx_cn _ (hy_L (nm_e ⟨17, ?_⟩))
  have h := hy_sw (post := fun r' v' => r' = nI (hv_cn (bt (e &&& (hv_L e ro rf ^^^ (-1)))) 16) ∧ i_Rel (k + 3) (c, e &&& ((e &&& (hv_L e ro rf ^^^ (-1))) ^^^ (-1)), ro &&& ((e &&& (hv_L e ro rf ^^^ (-1))) ^^^ (-1)), sz, hv_rm (e &&& (hv_L e ro rf ^^^ (-1))) rf 16) v') (c := c) (e := e) (ro := ro) (sz := sz) (rf := rf) (hd := hd) (g := (e &&& (hv_L e ro rf ^^^ (-1)))) (fun j hj => hv_an hj) (fun j hj => ok.2.1 j (hv_an hj)) ⟨rfl, hv_mk _ _ (hv_rm_ok ok _)⟩ 16 0 rfl
  have e0 : hv_G (e &&& (hv_L e ro rf ^^^ (-1))) 0 = 0 := rfl
  rw [e0, hv_a0, hv_a0, hv_rm_z] at h
  exact h
