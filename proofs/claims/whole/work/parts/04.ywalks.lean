/-! ===== the reference's walks ===== -/
theorem hy_in {post : Int32 → Prop} {J : Int32 → Int32 → Prop} {x1 x3 c e ro : Int32} {sz rf hd : Nat → Int32} (s : Int32) (hJ : J (hv_in rf x1 s 16) (x3 + 1)) : ∀ d i, i + d = 16 → wY_reached_18 post J x1 x3 c e ro sz rf hd (d + 1) (hv_in rf x1 s i) (nI i) := by
  intro d
  induction d with
  | zero =>
    intro i hi
    obtain rfl : i = 16 := by omega
    exact br_t hv_16e (nm_e hJ)
  | succ d ih =>
    intro i hi
    have h := ih (i + 1) (by omega)
    have hi' : i < 16 := by omega
    refine br_f (hv_16 hi') ?_
    cases z : bt (hv_in rf x1 s i) i
    · rw [hv_in_f z] at h
      exact br_f (hv_gn (by omega) z) (nm_r (nI_1 i) h)
    · rw [hv_in_t z] at h
      refine br_t (hv_gt (by omega) z) ⟨hv_in16 hi', nm_r ?_ (nm_r (nI_1 i) h)⟩
      rw [hv_cl hi']
theorem hy_out {post : Int32 → Prop} {x1 c e ro : Int32} {sz rf hd : Nat → Int32} (s : Int32) (hp : post (hv_out rf x1 s 16)) : ∀ d k, k + d = 16 → wY_reached_9 post x1 c e ro sz rf hd (d + 1) (hv_out rf x1 s k) (nI k) := by
  intro d
  induction d with
  | zero =>
    intro k hk
    obtain rfl : k = 16 := by omega
    exact br_t hv_16e hp
  | succ d ih =>
    intro k hk
    refine br_f (hv_16 (by omega)) ⟨17, hy_in (J := wY_reached_9 post x1 c e ro sz rf hd (d + 1)) (hv_out rf x1 s k) ?_ 16 0 rfl⟩
    rw [nI_1]
    exact ih (k + 1) (by omega)
theorem hy_r {post : Int32 → Prop} {c e ro : Int32} {sz rf hd : Nat → Int32} (m : Int32) (hp : post (hv_out rf m (ro &&& m) 16)) : wpY_reached post (c, e, ro, sz, rf, hd) m := nm_e ⟨17, hy_out _ hp 16 0 rfl⟩
theorem hy_L {post : Int32 → Prop} {c e ro : Int32} {sz rf hd : Nat → Int32} (hp : post (hv_L e ro rf)) : wpY_live post (c, e, ro, sz, rf, hd) := by
  unfold wpY_live
  dsimp only
  exact hy_r e hp
theorem hy_ex1 {post : Int32 → Prop} {c e ro : Int32} {sz rf hd : Nat → Int32} {x : Nat} (hx : x < 16) (h : bt e x = true) (hp : post 1) : wpY_is post (c, e, ro, sz, rf, hd) (nI x) :=
  br_f (hv_neg hx) (br_f (hv_16 hx) (br_t (hv_gt (by omega) h) hp))
theorem hy_ex0 {post : Int32 → Prop} {c e ro : Int32} {sz rf hd : Nat → Int32} {v : Int32} (h : ¬ hv_ex e v) (hp : post 0) : wpY_is post (c, e, ro, sz, rf, hd) v := by
  rcases pk_ix v (n := 16) (by decide) with g | g | ⟨x, hx, rfl⟩
  · exact br_t g hp
  · exact br_f (fun g' => absurd (Int32.lt_of_le_of_lt g g') (by decide)) (br_t g hp)
  · exact br_f (hv_neg hx) (br_f (hv_16 hx) (br_f (hv_gn (by omega) (hv_nex hx h)) hp))
theorem hy_lv1 {post : Int32 → Prop} {c e ro : Int32} {sz rf hd : Nat → Int32} {x : Nat} (hx : x < 16) (h : bt (hv_L e ro rf) x = true) (hp : post 1) : wpY_isLive post (c, e, ro, sz, rf, hd) (nI x) := by
  unfold wpY_isLive
  dsimp only
  exact hy_L (hy_ex1 hx (hv_L_e h) (br_f hv_10 (br_t (hv_gt (by omega) h) hp)))
theorem hy_lv0 {post : Int32 → Prop} {c e ro : Int32} {sz rf hd : Nat → Int32} {v : Int32} (h : ¬ hv_ex (hv_L e ro rf) v) (hp : post 0) : wpY_isLive post (c, e, ro, sz, rf, hd) v := by
  unfold wpY_isLive
  dsimp only
  refine hy_L ?_
  by_cases g : hv_ex e v
  · obtain ⟨x, hx, rfl, z⟩ := g
    exact hy_ex1 hx z (br_f hv_10 (br_f (hv_gn (by omega) (hv_nex hx h)) hp))
  · exact hy_ex0 g (br_t rfl hp)
theorem hy_K0 {post : Int32 → Prop} {c e ro : Int32} {sz rf hd : Nat → Int32} {v : Int32} (h : ¬ hv_ex (hv_L e ro rf) v) (hp : post 0) : wpY_kept post (c, e, ro, sz, rf, hd) v := by
  unfold wpY_kept
  dsimp only
  exact hy_lv0 h (br_t rfl hp)
theorem hy_K {post : Int32 → Prop} {c e ro : Int32} {sz rf hd : Nat → Int32} {x : Nat} (hx : x < 16) (hp : post (hv_K e ro rf x)) : wpY_kept post (c, e, ro, sz, rf, hd) (nI x) := by
  cases z : bt (hv_L e ro rf) x
  · rw [hv_K_dead (by omega) z] at hp
    refine hy_K0 ?_ hp
    intro ⟨y, hy, g1, g2⟩
    rw [nI_eq (by omega) (by omega)] at g1
    subst g1
    rw [z] at g2
    cases g2
  · unfold wpY_kept
    dsimp only
    exact hy_lv1 hx z (br_f hv_10 (hy_L (hy_r _ hp)))
theorem hy_dm {post : Int32 → Prop} {c e ro : Int32} {sz rf hd : Nat → Int32} {a x : Nat} (ha : a < 16) (hx : x < 16) (hp : post (hv_b (bt (hv_K e ro rf a) x))) : wpY_dominates post (c, e, ro, sz, rf, hd) (nI a) (nI x) := by
  unfold wpY_dominates
  dsimp only
  refine hy_K ha ?_
  cases z : bt (hv_K e ro rf a) x
  · rw [z] at hp
    by_cases g : hv_ex e (nI x)
    · obtain ⟨y, hy, g1, g2⟩ := g
      rw [nI_eq (by omega) (by omega)] at g1
      subst g1
      exact hy_ex1 hx g2 (br_f hv_10 (br_f (hv_gn (by omega) z) hp))
    · exact hy_ex0 g (br_t rfl hp)
  · rw [z] at hp
    exact hy_ex1 hx (hv_L_e (hv_K_L z)) (br_f hv_10 (br_t (hv_gt (by omega) z) hp))
theorem hy_dm0 {post : Int32 → Prop} {c e ro : Int32} {sz rf hd : Nat → Int32} {v w : Int32} (h : ¬ hv_ex (hv_L e ro rf) v) (hp : post 0) : wpY_dominates post (c, e, ro, sz, rf, hd) v w := by
  unfold wpY_dominates
  dsimp only
  refine hy_K0 h ?_
  by_cases g : hv_ex e w
  · obtain ⟨x, hx, rfl, z⟩ := g
    exact hy_ex1 hx z (br_f hv_10 (br_f (hv_gn (by omega) (b_0 x)) hp))
  · exact hy_ex0 g (br_t rfl hp)
theorem hy_dm1 {post : Int32 → Prop} {c e ro : Int32} {sz rf hd : Nat → Int32} {a : Nat} {w : Int32} (ha : a < 16) (h : ¬ hv_ex (hv_L e ro rf) w) (hp : post 0) : wpY_dominates post (c, e, ro, sz, rf, hd) (nI a) w := by
  unfold wpY_dominates
  dsimp only
  refine hy_K ha ?_
  by_cases g : hv_ex e w
  · obtain ⟨x, hx, rfl, z⟩ := g
    have z2 : bt (hv_K e ro rf a) x = false := by
      cases z3 : bt (hv_K e ro rf a) x
      · rfl
      · exact absurd ⟨x, hx, rfl, hv_K_L z3⟩ h
    exact hy_ex1 hx z (br_f hv_10 (br_f (hv_gn (by omega) z2) hp))
  · exact hy_ex0 g (br_t rfl hp)
def hv_q (e ro : Int32) (rf : Nat → Int32) (x y : Nat) (sk : Int32) (k a : Nat) : Bool := !(!decide (nI a = sk) && (bt (hv_K e ro rf a) x && bt (hv_K e ro rf a) y)) || bt (hv_K e ro rf a) k
theorem hy_all {post : Int32 → Prop} {c e ro : Int32} {sz rf hd : Nat → Int32} {x y k : Nat} {sk : Int32} (hx : x < 16) (hy : y < 16) (hk : k < 16) (hp : post (hv_b (hv_all (hv_q e ro rf x y sk k) 16))) : wpY_allDominate post (c, e, ro, sz, rf, hd) (nI x) (nI y) sk (nI k) := by
  have key : ∀ d i, i + d = 16 → wY_allDominate_6 post (nI x) (nI y) sk (nI k) c e ro sz rf hd (d + 1) (hv_b (hv_all (hv_q e ro rf x y sk k) i)) (nI i) := by
    intro d
    induction d with
    | zero =>
      intro i hi
      obtain rfl : i = 16 := by omega
      exact br_t hv_16e ⟨hv_bn _, hp⟩
    | succ d ih =>
      intro i hi
      have h := ih (i + 1) (by omega)
      have hi' : i < 16 := by omega
      have hs : hv_all (hv_q e ro rf x y sk k) (i + 1) = (hv_all (hv_q e ro rf x y sk k) i && hv_q e ro rf x y sk k i) := rfl
      rw [hs] at h
      refine br_f (hv_16 hi') ?_
      by_cases q0 : nI i = sk
      · have hq : hv_q e ro rf x y sk k i = true := by unfold hv_q; rw [decide_eq_true q0]; rfl
        rw [hq, Bool.and_true] at h
        exact br_t q0 (nm_r (nI_1 i) h)
      · refine br_f q0 (hy_dm hi' hx ?_)
        cases z1 : bt (hv_K e ro rf i) x
        · have hq : hv_q e ro rf x y sk k i = true := by unfold hv_q; rw [decide_eq_false q0, z1]; rfl
          rw [hq, Bool.and_true] at h
          exact br_t rfl (nm_r (nI_1 i) h)
        · refine br_f hv_10 (hy_dm hi' hy ?_)
          cases z2 : bt (hv_K e ro rf i) y
          · have hq : hv_q e ro rf x y sk k i = true := by unfold hv_q; rw [decide_eq_false q0, z1, z2]; rfl
            rw [hq, Bool.and_true] at h
            exact br_t rfl (nm_r (nI_1 i) h)
          · refine br_f hv_10 ?_
            have hq : hv_q e ro rf x y sk k i = bt (hv_K e ro rf i) k := by unfold hv_q; rw [decide_eq_false q0, z1, z2]; rfl
            rw [hq] at h
            cases z3 : hv_all (hv_q e ro rf x y sk k) i
            · rw [z3] at h
              exact br_t rfl (nm_r (nI_1 i) h)
            · rw [z3] at h
              refine br_f hv_10 (hy_dm hi' hk ?_)
              cases z4 : bt (hv_K e ro rf i) k
              · rw [z4] at h
                exact br_t rfl (nm_r (nI_1 i) h)
              · rw [z4] at h
                exact br_f hv_10 (nm_r (nI_1 i) h)
  exact ⟨17, key 16 0 rfl⟩
def hv_pK (e ro : Int32) (rf : Nat → Int32) (x a : Nat) : Bool := !decide (a = x) && (bt (hv_K e ro rf a) x && hv_all (hv_q e ro rf x x (nI x) a) 16)
theorem hy_keeper {post : Int32 → Prop} {c e ro : Int32} {sz rf hd : Nat → Int32} {x : Nat} (hx : x < 16) (h : bt (hv_L e ro rf) x = true) (hp : post (hv_fst (hv_pK e ro rf x) 16 0)) : wpY_keeper post (c, e, ro, sz, rf, hd) (nI x) := by
  have key : ∀ d i, i + d = 16 → post (hv_fst (hv_pK e ro rf x) d i) → wY_keeper_13 post (nI x) c e ro sz rf hd (d + 1) (nI i) := by
    intro d
    induction d with
    | zero =>
      intro i hi hp
      obtain rfl : i = 16 := by omega
      exact br_t hv_16e hp
    | succ d ih =>
      intro i hi hp
      have hi' : i < 16 := by omega
      refine br_f (hv_16 hi') ?_
      by_cases q0 : i = x
      · have g : hv_pK e ro rf x i = false := by unfold hv_pK; rw [decide_eq_true q0]; rfl
        rw [hv_fst_f g] at hp
        exact br_t (by rw [q0]) (nm_r (nI_1 i) (ih (i + 1) (by omega) hp))
      · refine br_f (by rw [nI_eq (by omega) (by omega)]; exact q0) (hy_dm hi' hx ?_)
        cases z1 : bt (hv_K e ro rf i) x
        · have g : hv_pK e ro rf x i = false := by unfold hv_pK; rw [decide_eq_false q0, z1]; rfl
          rw [hv_fst_f g] at hp
          exact br_t rfl (nm_r (nI_1 i) (ih (i + 1) (by omega) hp))
        · refine br_f hv_10 (hy_all hx hx hi' ?_)
          have g0 : hv_pK e ro rf x i = hv_all (hv_q e ro rf x x (nI x) i) 16 := by unfold hv_pK; rw [decide_eq_false q0, z1]; rfl
          cases z2 : hv_all (hv_q e ro rf x x (nI x) i) 16
          · rw [z2] at g0
            rw [hv_fst_f g0] at hp
            exact br_t rfl (nm_r (nI_1 i) (ih (i + 1) (by omega) hp))
          · rw [z2] at g0
            rw [hv_fst_t g0] at hp
            exact br_f hv_10 hp
  unfold wpY_keeper
  dsimp only
  exact hy_lv1 hx h (br_f hv_10 ⟨17, key 16 0 rfl hp⟩)
def hv_pC (e ro : Int32) (rf : Nat → Int32) (x y a : Nat) : Bool := bt (hv_K e ro rf a) x && (bt (hv_K e ro rf a) y && hv_all (hv_q e ro rf x y (-1) a) 16)
theorem hy_common {post : Int32 → Prop} {c e ro : Int32} {sz rf hd : Nat → Int32} {x y : Nat} (hx : x < 16) (hy : y < 16) (h : bt (hv_L e ro rf) x = true) (h' : bt (hv_L e ro rf) y = true) (hp : post (hv_fst (hv_pC e ro rf x y) 16 0)) : wpY_common post (c, e, ro, sz, rf, hd) (nI x) (nI y) := by
  have key : ∀ d i, i + d = 16 → post (hv_fst (hv_pC e ro rf x y) d i) → wY_common_21 post (nI x) (nI y) c e ro sz rf hd (d + 1) (nI i) := by
    intro d
    induction d with
    | zero =>
      intro i hi hp
      obtain rfl : i = 16 := by omega
      exact br_t hv_16e hp
    | succ d ih =>
      intro i hi hp
      have hi' : i < 16 := by omega
      refine br_f (hv_16 hi') (hy_dm hi' hx ?_)
      cases z0 : bt (hv_K e ro rf i) x
      · have g : hv_pC e ro rf x y i = false := by unfold hv_pC; rw [z0]; rfl
        rw [hv_fst_f g] at hp
        exact br_t rfl (nm_r (nI_1 i) (ih (i + 1) (by omega) hp))
      · refine br_f hv_10 (hy_dm hi' hy ?_)
        cases z1 : bt (hv_K e ro rf i) y
        · have g : hv_pC e ro rf x y i = false := by unfold hv_pC; rw [z0, z1]; rfl
          rw [hv_fst_f g] at hp
          exact br_t rfl (nm_r (nI_1 i) (ih (i + 1) (by omega) hp))
        · refine br_f hv_10 (hy_all hx hy hi' ?_)
          have g0 : hv_pC e ro rf x y i = hv_all (hv_q e ro rf x y (-1) i) 16 := by unfold hv_pC; rw [z0, z1]; rfl
          cases z2 : hv_all (hv_q e ro rf x y (-1) i) 16
          · rw [z2] at g0
            rw [hv_fst_f g0] at hp
            exact br_t rfl (nm_r (nI_1 i) (ih (i + 1) (by omega) hp))
          · rw [z2] at g0
            rw [hv_fst_t g0] at hp
            exact br_f hv_10 hp
  unfold wpY_common
  dsimp only
  exact hy_lv1 hx h (br_f hv_10 (hy_lv1 hy h' (br_f hv_10 ⟨17, key 16 0 rfl hp⟩)))
theorem hy_Ws {post : Int32 → Prop} {c e ro : Int32} {sz rf hd : Nat → Int32} (s : Int32) (hp : post (hv_sum s sz 16)) : ∀ d i, i + d = 16 → wY_retained_11 post s c e ro sz rf hd (d + 1) (hv_sum s sz i) (nI i) := by
  intro d
  induction d with
  | zero =>
    intro i hi
    obtain rfl : i = 16 := by omega
    exact br_t hv_16e hp
  | succ d ih =>
    intro i hi
    have h := ih (i + 1) (by omega)
    have hi' : i < 16 := by omega
    refine br_f (hv_16 hi') ?_
    cases z : bt s i
    · rw [hv_sum_f z] at h
      exact br_f (hv_gn (by omega) z) (nm_r (Int32.add_zero _) (nm_r (nI_1 i) h))
    · rw [hv_sum_t z] at h
      refine br_t (hv_gt (by omega) z) ⟨hv_in16 hi', nm_r ?_ (nm_r (nI_1 i) h)⟩
      rw [hv_cl hi']
theorem hy_W {post : Int32 → Prop} {c e ro : Int32} {sz rf hd : Nat → Int32} {x : Nat} (hx : x < 16) (hp : post (hv_sum (hv_K e ro rf x) sz 16)) : wpY_retained post (c, e, ro, sz, rf, hd) (nI x) := by
  unfold wpY_retained
  dsimp only
  exact hy_K hx ⟨17, hy_Ws _ hp 16 0 rfl⟩
theorem hy_W0 {post : Int32 → Prop} {c e ro : Int32} {sz rf hd : Nat → Int32} {v : Int32} (h : ¬ hv_ex (hv_L e ro rf) v) (hp : post 0) : wpY_retained post (c, e, ro, sz, rf, hd) v := by
  unfold wpY_retained
  dsimp only
  exact hy_K0 h ⟨17, hy_Ws 0 (by rw [hv_sum_0]; exact hp) 16 0 rfl⟩
def hv_pD (e ro : Int32) (rf : Nat → Int32) (x a : Nat) : Bool := !decide (a = x) && bt (hv_K e ro rf a) x
theorem hy_depth {post : Int32 → Prop} {c e ro : Int32} {sz rf hd : Nat → Int32} {x : Nat} (hx : x < 16) (h : bt (hv_L e ro rf) x = true) (hp : post (nI (hv_cn (hv_pD e ro rf x) 16))) : wpY_depth post (c, e, ro, sz, rf, hd) (nI x) := by
  have key : ∀ d i, i + d = 16 → wY_depth_15 post (nI x) c e ro sz rf hd (d + 1) (nI (hv_cn (hv_pD e ro rf x) i)) (nI i) := by
    intro d
    induction d with
    | zero =>
      intro i hi
      obtain rfl : i = 16 := by omega
      exact br_t hv_16e hp
    | succ d ih =>
      intro i hi
      have h := ih (i + 1) (by omega)
      have hi' : i < 16 := by omega
      refine br_f (hv_16 hi') ?_
      by_cases q0 : i = x
      · have g : hv_pD e ro rf x i = false := by unfold hv_pD; rw [decide_eq_true q0]; rfl
        rw [hv_cn_f g] at h
        exact br_t (by rw [q0]) (nm_r (Int32.add_zero _) (nm_r (nI_1 i) h))
      · refine br_f (by rw [nI_eq (by omega) (by omega)]; exact q0) (hy_dm hi' hx ?_)
        have g : hv_pD e ro rf x i = bt (hv_K e ro rf i) x := by unfold hv_pD; rw [decide_eq_false q0]; rfl
        cases z1 : bt (hv_K e ro rf i) x
        · rw [z1] at g
          rw [hv_cn_f g] at h
          exact br_t rfl (nm_r (Int32.add_zero _) (nm_r (nI_1 i) h))
        · rw [z1] at g
          rw [hv_cn_t g] at h
          exact br_f hv_10 (nm_r (nI_1 _) (nm_r (nI_1 i) h))
  unfold wpY_depth
  dsimp only
  exact hy_lv1 hx h (br_f hv_10 ⟨17, key 16 0 rfl⟩)
