/-! ===== suspect ===== -/
theorem hv_wt {c e ro : Int32} {sz rf : Nat → Int32} (ok : hv_ok c e ro sz rf) (x : Nat) : ∃ w, w ≤ 1600 ∧ hv_sum (hv_K e ro rf x) sz 16 = nI w ∧ (x < 16 → bt (hv_L e ro rf) x = true → 1 ≤ w) := by
  obtain ⟨w, h1, h2, h3⟩ := hv_sum_n (s := hv_K e ro rf x) (z := sz) (fun a ha h => ok.2.2.2.2.2 a ha (hv_L_e (hv_K_L h))) 16 (Nat.le_refl _)
  exact ⟨w, by omega, h2, fun hx h => h3 x hx (hv_K_self h)⟩
/-- the weights as naturals -/
def hv_Wt (e ro : Int32) (sz rf : Nat → Int32) (w : Nat → Nat) : Prop := ∀ x, x < 16 → w x ≤ 1600 ∧ hv_sum (hv_K e ro rf x) sz 16 = nI (w x) ∧ (bt (hv_L e ro rf) x = true → 1 ≤ w x)
theorem hv_wts {c e ro : Int32} {sz rf : Nat → Int32} (ok : hv_ok c e ro sz rf) : ∃ w, hv_Wt e ro sz rf w :=
  ⟨fun x => (hv_wt ok x).choose, fun x hx => ⟨(hv_wt ok x).choose_spec.1, (hv_wt ok x).choose_spec.2.1, (hv_wt ok x).choose_spec.2.2 hx⟩⟩
/-- the best so far below i -/
def hv_Bst (s : Int32) (w : Nat → Nat) (i : Nat) (x2 x3 : Int32) : Prop :=
  (x2 = -1 ∧ x3 = 0 ∧ ∀ a, a < i → bt s a = false) ∨ ∃ h, h < i ∧ bt s h = true ∧ x2 = nI h ∧ x3 = nI (w h) ∧ ∀ a, a < i → bt s a = true → a ≠ h → hv_bf w h a = true
theorem hx_hv {c e ro : Int32} {sz rf : Nat → Int32} (ok : hv_ok c e ro sz rf) {w : Nat → Nat} (W : hv_Wt e ro sz rf w) {s : Int32} (hs : ∀ j, j < 16 → bt s j = true → bt (hv_L e ro rf) j = true) (hne : ∃ a, a < 16 ∧ bt s a = true) : ∃ h, hv_Top (bt s) w h ∧ ∀ post : Int32 → Prop, post (nI h) → wpX_heaviestOf post (c, e, ro, sz, rf) s := by
  have key : ∀ d i x2 x3, i + d = 16 → hv_Bst s w i x2 x3 → ∃ h, hv_Top (bt s) w h ∧ ∀ post : Int32 → Prop, post (nI h) → wX_heaviestOf_7 post s c e ro sz rf (d + 1) x2 x3 (nI i) := by
    intro d
    induction d with
    | zero =>
      intro i x2 x3 hi hB
      obtain rfl : i = 16 := by omega
      rcases hB with ⟨_, _, hB⟩ | ⟨h, h1, h2, rfl, rfl, h3⟩
      · obtain ⟨a, ha, hb⟩ := hne
        rw [hB a ha] at hb
        cases hb
      · exact ⟨h, ⟨h1, h2, h3⟩, fun post hp => br_t hv_16e hp⟩
    | succ d ih =>
      intro i x2 x3 hi hB
      have hi' : i < 16 := by omega
      cases z : bt s i
      · have hB' : hv_Bst s w (i + 1) x2 x3 := by
          rcases hB with ⟨q1, q2, hB⟩ | ⟨h, h1, h2, q1, q2, h3⟩
          · refine Or.inl ⟨q1, q2, fun a ha => ?_⟩
            by_cases q : a = i
            · subst q; exact z
            · exact hB a (by omega)
          · refine Or.inr ⟨h, by omega, h2, q1, q2, fun a ha hb => ?_⟩
            by_cases q : a = i
            · subst q; rw [z] at hb; cases hb
            · exact h3 a (by omega) hb
        obtain ⟨h, hT, hw⟩ := ih (i + 1) x2 x3 (by omega) hB'
        exact ⟨h, hT, fun post hp => br_f (hv_16 hi') (hx_f hi' z (br_t rfl (nm_r (nI_1 i) (hw post hp))))⟩
      · obtain ⟨w1, w2, w3⟩ := W i hi'
        have w4 := w3 (hs i hi' z)
        have hnew : (∀ a, a < i → bt s a = true → hv_bf w i a = true) → hv_Bst s w (i + 1) (nI i) (nI (w i)) := by
          intro hh
          refine Or.inr ⟨i, by omega, z, rfl, rfl, fun a ha hb q => hh a (by omega) hb⟩
        rcases hB with ⟨q1, q2, hB⟩ | ⟨h, h1, h2, q1, q2, h3⟩
        · have hle : ¬ nI (w i) ≤ x3 := by rw [q2]; exact nI_nle (by omega) (by omega)
          obtain ⟨h, hT, hw⟩ := ih (i + 1) (nI i) (nI (w i)) (by omega) (hnew (fun a ha hb => by rw [hB a ha] at hb; cases hb))
          refine ⟨h, hT, fun post hp => br_f (hv_16 hi') (hx_t hi' z (br_f hv_10 (hx_W ok hi' ?_)))⟩
          rw [w2]
          exact br_f hle (nm_r (nI_1 i) (hw post hp))
        · obtain ⟨y1, y2, y3⟩ := W h (by omega)
          by_cases hc : w i ≤ w h
          · have hle : nI (w i) ≤ x3 := by rw [q2]; exact nI_le hc (by omega)
            have hB' : hv_Bst s w (i + 1) x2 x3 := by
              refine Or.inr ⟨h, by omega, h2, q1, q2, fun a ha hb hne => ?_⟩
              by_cases q : a = i
              · subst q; exact hv_bf_i.mpr (by omega)
              · exact h3 a (by omega) hb hne
            obtain ⟨h', hT, hw⟩ := ih (i + 1) x2 x3 (by omega) hB'
            refine ⟨h', hT, fun post hp => br_f (hv_16 hi') (hx_t hi' z (br_f hv_10 (hx_W ok hi' ?_)))⟩
            rw [w2]
            exact br_t hle (nm_r (nI_1 i) (hw post hp))
          · have hle : ¬ nI (w i) ≤ x3 := by rw [q2]; exact nI_ge (by omega) (by omega)
            have hh : ∀ a, a < i → bt s a = true → hv_bf w i a = true := by
              intro a ha hb
              by_cases q : a = h
              · subst q; exact hv_bf_i.mpr (by omega)
              · have := hv_bf_i.mp (h3 a ha hb q)
                exact hv_bf_i.mpr (by omega)
            obtain ⟨h', hT, hw⟩ := ih (i + 1) (nI i) (nI (w i)) (by omega) (hnew hh)
            refine ⟨h', hT, fun post hp => br_f (hv_16 hi') (hx_t hi' z (br_f hv_10 (hx_W ok hi' ?_)))⟩
            rw [w2]
            exact br_f hle (nm_r (nI_1 i) (hw post hp))
  obtain ⟨h, hT, hw⟩ := key 16 0 (-1) 0 rfl (Or.inl ⟨rfl, rfl, fun a ha => absurd ha (Nat.not_lt_zero a)⟩)
  exact ⟨h, hT, fun post hp => ⟨17, hw post hp⟩⟩
theorem hx_su {c e ro : Int32} {sz rf : Nat → Int32} (ok : hv_ok c e ro sz rf) {w : Nat → Nat} (W : hv_Wt e ro sz rf w) {k : Nat} (hk : k < hv_cn (bt (hv_L e ro rf)) 16) : ∀ d j s, j + d = k → hv_Sel (bt (hv_L e ro rf)) (bt s) w j → ∃ h, h < 16 ∧ bt (hv_L e ro rf) h = true ∧ hv_rk (bt (hv_L e ro rf)) w h = k ∧ ∀ post : Int32 → Prop, post (nI h) → wX_suspect_25 post (nI k) c e ro sz rf (d + 1) s (nI j) := by
  have hk16 : k < 16 := Nat.lt_of_lt_of_le hk (hv_cn_le _ 16)
  intro d
  induction d with
  | zero =>
    intro j s hj A
    obtain rfl : j = k := by omega
    obtain ⟨h, hT, hw⟩ := hx_hv ok W (fun a ha => A.1 a ha) (hv_Sel_ne A hk)
    obtain ⟨r1, r2⟩ := hv_Sel_r A hT
    exact ⟨h, hT.1, r1, r2, fun post hp => br_t (nI_le (Nat.le_refl _) (by omega)) (hw _ hp)⟩
  | succ d ih =>
    intro j s hj A
    obtain ⟨h, hT, hw⟩ := hx_hv ok W (fun a ha => A.1 a ha) (hv_Sel_ne A (by omega))
    have h16 := hT.1
    have A' : hv_Sel (bt (hv_L e ro rf)) (bt (s &&& (((1 : Int32) <<< (nI h &&& 31)) ^^^ (-1)))) w (j + 1) := by
      refine hv_Sel_s A hT ?_ ?_
      · rw [b_and, hv_not _ (by omega), hv_1 h (by omega) h (by omega)]; simp
      · intro a ha q
        rw [b_and, hv_not _ (by omega), hv_1 h (by omega) a (by omega), decide_eq_false q]; simp
    obtain ⟨h', r0, r1, r2, r3⟩ := ih (j + 1) _ (by omega) A'
    exact ⟨h', r0, r1, r2, fun post hp => br_f (nI_ge (by omega) (by omega)) (hw _ (nm_e (nm_r (nI_1 j) (r3 post hp))))⟩
/-! the reference's side -/
def hv_hd (hd R : Nat → Int32) (i : Nat) : Nat → Int32 := fun j => if j < i then R j else hd j
theorem hv_hd_0 (hd R : Nat → Int32) : hv_hd hd R 0 = hd := funext fun j => if_neg (Nat.not_lt_zero j)
theorem hv_hd_s (hd R : Nat → Int32) (i : Nat) : upd (hv_hd hd R i) i (R i) = hv_hd hd R (i + 1) := by
  funext j
  by_cases q : j = i
  · subst q; rw [pk_us]; exact (if_pos (Nat.lt_succ_self j)).symm
  · rw [pk_un q]
    unfold hv_hd
    by_cases l : j < i
    · rw [if_pos l, if_pos (show j < i + 1 by omega)]
    · rw [if_neg l, if_neg (show ¬ j < i + 1 by omega)]
theorem hy_94 {post : Int32 → SY → Prop} {J32 : Int32 → Prop} {J44 : Int32 → Int32 → Prop} {x1 x3 c e ro : Int32} {sz rf hd : Nat → Int32} {L : Int32} {n i : Nat} {b : Bool} (hi : i < 16) (hJ : J44 (nI (if (bt L i && b) = true then n + 1 else n)) (nI (i + 1))) : wY_suspect_94 post J32 J44 x1 L x3 (nI n) (nI i) (hv_b b) c e ro sz rf hd := by
  cases z : bt L i
  · rw [z] at hJ
    exact br_f (hv_gn (by omega) z) (nm_r (Int32.add_zero _) (nm_r (nI_1 i) hJ))
  · rw [z] at hJ
    cases b
    · exact br_t (hv_gt (by omega) z) (br_t rfl (nm_r (Int32.add_zero _) (nm_r (nI_1 i) hJ)))
    · exact br_t (hv_gt (by omega) z) (br_f hv_10 (nm_r (nI_1 n) (nm_r (nI_1 i) hJ)))
theorem hy_44 {post : Int32 → SY → Prop} {J32 : Int32 → Prop} {x1 c e ro : Int32} {sz rf hd : Nat → Int32} {L : Int32} {w : Nat → Nat} (hw : ∀ x, x < 16 → w x ≤ 1600 ∧ hd x = nI (w x)) {y : Nat} (hy : y < 16) (hp : bt L y = true → nI (hv_rk (bt L) w y) = x1 → post (nI y) (c, e, ro, sz, rf, hd)) (hn : ¬ (bt L y = true ∧ nI (hv_rk (bt L) w y) = x1) → J32 (nI (y + 1))) : ∀ d i, i + d = 16 → wY_suspect_44 post J32 x1 L (nI y) c e ro sz rf hd (d + 1) (nI (hv_cn (fun z => bt L z && hv_bf w z y) i)) (nI i) := by
  intro d
  induction d with
  | zero =>
    intro i hi
    obtain rfl : i = 16 := by omega
    refine br_t hv_16e ?_
    cases z : bt L y
    · exact br_f (hv_gn (by omega) z) (nm_r (nI_1 y) (hn (by rw [z]; intro g; cases g.1)))
    · refine br_t (hv_gt (by omega) z) ?_
      by_cases q : nI (hv_rk (bt L) w y) = x1
      · exact br_t q (hp z q)
      · exact br_f q (nm_r (nI_1 y) (hn (fun g => q g.2)))
  | succ d ih =>
    intro i hi
    have h := ih (i + 1) (by omega)
    have hi' : i < 16 := by omega
    obtain ⟨a1, a2⟩ := hw i hi'
    obtain ⟨b1, b2⟩ := hw y hy
    have h2 : wY_suspect_94 post J32 (wY_suspect_44 post J32 x1 L (nI y) c e ro sz rf hd (d + 1)) x1 L (nI y) (nI (hv_cn (fun z => bt L z && hv_bf w z y) i)) (nI i) (hv_b (hv_bf w i y)) c e ro sz rf hd := hy_94 hi' h
    have ea : hd (nI i).toNatClampNeg = nI (w i) := by rw [hv_cl hi', a2]
    have eb : hd (nI y).toNatClampNeg = nI (w y) := by rw [hv_cl hy, b2]
    refine br_f (hv_16 hi') ⟨hv_in16 hi', hv_in16 hy, ?_⟩
    by_cases c1 : w y < w i
    · have hb : hv_bf w i y = true := hv_bf_i.mpr (Or.inl c1)
      rw [hb] at h2
      exact br_t (by rw [ea, eb]; exact nI_lt c1 (by omega)) h2
    · refine br_f (by rw [ea, eb]; exact nI_nlt (by omega) (by omega)) ⟨hv_in16 hi', hv_in16 hy, ?_⟩
      by_cases c2 : w i = w y
      · refine br_t (by rw [ea, eb, c2]) ?_
        by_cases c3 : y ≤ i
        · have hb : hv_bf w i y = false := by
            cases z : hv_bf w i y
            · rfl
            · have := hv_bf_i.mp z; omega
          rw [hb] at h2
          exact br_t (nI_le c3 (by omega)) h2
        · have hb : hv_bf w i y = true := hv_bf_i.mpr (by omega)
          rw [hb] at h2
          exact br_f (nI_ge (by omega) (by omega)) h2
      · have hb : hv_bf w i y = false := by
          cases z : hv_bf w i y
          · rfl
          · have := hv_bf_i.mp z; omega
        rw [hb] at h2
        exact br_f (by rw [ea, eb, nI_eq (by omega) (by omega)]; exact c2) h2
def hv_pS (L : Int32) (w : Nat → Nat) (x1 : Int32) (y : Nat) : Bool := bt L y && decide (nI (hv_rk (bt L) w y) = x1)
theorem hy_32 {post : Int32 → SY → Prop} {x1 c e ro : Int32} {sz rf hd : Nat → Int32} {L : Int32} {w : Nat → Nat} (hw : ∀ x, x < 16 → w x ≤ 1600 ∧ hd x = nI (w x)) : ∀ d y, y + d = 16 → post (hv_fst (hv_pS L w x1) d y) (c, e, ro, sz, rf, hd) → wY_suspect_32 post x1 L c e ro sz rf hd (d + 1) (nI y) := by
  intro d
  induction d with
  | zero =>
    intro y hy hp
    obtain rfl : y = 16 := by omega
    exact br_t hv_16e hp
  | succ d ih =>
    intro y hy hp
    have hy' : y < 16 := by omega
    refine br_f (hv_16 hy') ⟨17, hy_44 (J32 := wY_suspect_32 post x1 L c e ro sz rf hd (d + 1)) hw hy' ?_ ?_ 16 0 rfl⟩
    · intro g1 g2
      have g : hv_pS L w x1 y = true := by unfold hv_pS; rw [g1, decide_eq_true g2]; rfl
      rw [hv_fst_t g] at hp
      exact hp
    · intro hn
      have g : hv_pS L w x1 y = false := by
        unfold hv_pS
        cases z : bt L y
        · rfl
        · rw [decide_eq_false (fun q => hn ⟨z, q⟩)]; rfl
      rw [hv_fst_f g] at hp
      exact ih (y + 1) (by omega) hp
theorem hy_su {post : Int32 → SY → Prop} {x1 c e ro : Int32} {sz rf hd : Nat → Int32} {w : Nat → Nat} (W : hv_Wt e ro sz rf w) (hp : ∀ hd', post (hv_fst (hv_pS (hv_L e ro rf) w x1) 16 0) (c, e, ro, sz, rf, hd')) : wpY_suspect post (c, e, ro, sz, rf, hd) x1 := by
  have key : ∀ d i, i + d = 16 → wY_suspect_7 post x1 (hv_L e ro rf) c e ro (d + 1) (nI i) sz rf (hv_hd hd (fun x => nI (w x)) i) := by
    intro d
    induction d with
    | zero =>
      intro i hi
      obtain rfl : i = 16 := by omega
      exact br_t hv_16e ⟨17, hy_32 (w := w) (fun x hx => ⟨(W x hx).1, if_pos hx⟩) 16 0 rfl (hp _)⟩
    | succ d ih =>
      intro i hi
      have h := ih (i + 1) (by omega)
      have hi' : i < 16 := by omega
      refine br_f (hv_16 hi') (hy_W hi' ⟨hv_in16 hi', nm_r ?_ (nm_r (nI_1 i) h)⟩)
      rw [hv_cl hi', (W i hi').2.1]
      exact hv_hd_s hd (fun x => nI (w x)) i
  unfold wpY_suspect
  dsimp only
  refine hy_L ⟨17, ?_⟩
  have h := key 16 0 rfl
  rw [hv_hd_0] at h
  exact h
theorem i_vc_suspect {k : Nat} {u : SX} {v : SY} (I : i_Rel k u v) (hk : k + 3 ≤ 1537) (v1 : Int32) : wpX_suspect (fun r => wpY_suspect (fun r' v' => r' = r ∧ i_Rel (k + 3) u v') v v1) u v1 := by
  obtain ⟨c, e, ro, sz, rf, hd, rfl, rfl, ok⟩ := I
  obtain ⟨w, W⟩ := hv_wts ok
  have hle := hv_cn_le (bt (hv_L e ro rf)) 16
  have none_ : (∀ y, y < 16 → bt (hv_L e ro rf) y = true → nI (hv_rk (bt (hv_L e ro rf)) w y) ≠ v1) → hv_fst (hv_pS (hv_L e ro rf) w v1) 16 0 = -1 := by
    intro h
    apply hv_fst_n
    intro a _ ha
    unfold hv_pS
    cases z : bt (hv_L e ro rf) a
    · rfl
    · rw [decide_eq_false (h a (by omega) z)]; rfl
  unfold wpX_suspect
  dsimp only
  refine hx_L ok (hx_cn _ ?_)
  by_cases h0 : v1 < 0
  · refine br_t h0 (hy_su W (fun hd' => ⟨none_ ?_, hv_mk _ _ ok⟩))
    intro y hy sy q
    have := hv_rk_lt (w := w) hy sy
    exact nI_pos (n := hv_rk (bt (hv_L e ro rf)) w y) (by omega) (by rw [q]; exact h0)
  · obtain ⟨m, hm, rfl⟩ := nI_of h0
    refine br_f h0 ?_
    by_cases hc : m < hv_cn (bt (hv_L e ro rf)) 16
    · obtain ⟨h, r0, r1, r2, r3⟩ := hx_su ok W hc m 0 _ (by omega) (hv_Sel_0 _ w)
      refine br_t (nI_lt hc (by omega)) ⟨m + 1, r3 _ (hy_su W (fun hd' => ⟨?_, hv_mk _ _ ok⟩))⟩
      refine hv_fst_h (b := h) ?_ 16 0 (by omega) (by omega) ?_
      · unfold hv_pS; rw [r1, r2, decide_eq_true rfl]; rfl
      · intro a _ ha hpa
        unfold hv_pS at hpa
        obtain ⟨p1, p2⟩ := Bool.and_eq_true_iff.mp hpa
        have p3 := of_decide_eq_true p2
        have l1 := hv_rk_lt (w := w) (show a < 16 by omega) p1
        rw [nI_eq (by omega) (by omega)] at p3
        exact hv_rk_u (by omega) r0 p1 r1 (by rw [p3, r2])
    · refine br_f (nI_nlt (by omega) (by omega)) (hy_su W (fun hd' => ⟨none_ ?_, hv_mk _ _ ok⟩))
      intro y hy sy q
      have l1 := hv_rk_lt (w := w) hy sy
      rw [nI_eq (by omega) (by omega)] at q
      omega
