/-! ===== the calls that only read ===== -/
theorem hv_dec {e ro : Int32} {rf : Nat → Int32} {s : Int32} {k : Nat} {q : Nat → Bool} (hs : ∀ j, bt s j = true → j < 16) (hq : ∀ j, j < 16 → q j = (!bt s j || bt (hv_K e ro rf j) k)) : decide (s &&& (hv_D e ro rf k 16 ^^^ (-1)) = 0) = hv_all q 16 := by
  rw [Bool.eq_iff_iff, decide_eq_true_iff, hv_all_i]
  constructor
  · intro h a ha
    have g : bt (s &&& (hv_D e ro rf k 16 ^^^ (-1))) a = false := by rw [h]; exact b_0 a
    rw [b_and, hv_not _ (by omega), hv_Db e ro rf k 16 (Nat.le_refl _) a (by omega), decide_eq_true ha] at g
    rw [hq a ha]
    revert g
    cases bt s a <;> cases bt (hv_K e ro rf a) k <;> decide
  · intro h
    apply b_ext
    intro j hj
    rw [b_and, hv_not _ hj, b_0]
    cases z : bt s j
    · rfl
    · have hj16 := hs j z
      have g := h j hj16
      rw [hq j hj16, z] at g
      rw [hv_Db e ro rf k 16 (Nat.le_refl _) j hj, decide_eq_true hj16]
      revert g
      cases bt (hv_K e ro rf j) k <;> decide
theorem hv_others {e ro : Int32} {rf : Nat → Int32} {x j : Nat} (hx : x < 16) (hj : j < 32) : bt (hv_D e ro rf x 16 &&& (((1 : Int32) <<< (nI x &&& 31)) ^^^ (-1))) j = ((decide (j < 16) && bt (hv_K e ro rf j) x) && !decide (j = x)) := by
  rw [b_and, hv_not _ hj, hv_1 x (by omega) j hj, hv_Db e ro rf x 16 (Nat.le_refl _) j hj]
theorem hv_keep {e ro : Int32} {rf : Nat → Int32} {x : Nat} (hx : x < 16) : hv_fst (hv_pA e ro rf (hv_D e ro rf x 16 &&& (((1 : Int32) <<< (nI x &&& 31)) ^^^ (-1)))) 16 0 = hv_fst (hv_pK e ro rf x) 16 0 := by
  apply hv_fst_c
  intro k _ hk
  have hk : k < 16 := by omega
  unfold hv_pA hv_pK
  rw [hv_dec (q := hv_q e ro rf x x (nI x) k) ?_ ?_, hv_others hx (by omega), decide_eq_true hk]
  · cases bt (hv_K e ro rf k) x <;> cases decide (k = x) <;> simp
  · intro j h
    have hj := hv_lt32 h
    rw [hv_others hx hj] at h
    by_cases g : j < 16
    · exact g
    · rw [decide_eq_false g] at h; simp at h
  · intro j hj
    have e1 : decide (nI j = nI x) = decide (j = x) := by rw [decide_eq_decide]; exact nI_eq (by omega) (by omega)
    unfold hv_q
    rw [hv_others hx (by omega), decide_eq_true hj, e1]
    cases bt (hv_K e ro rf j) x <;> cases decide (j = x) <;> simp
theorem hv_comm {e ro : Int32} {rf : Nat → Int32} {x y : Nat} : hv_fst (hv_pA e ro rf (hv_D e ro rf x 16 &&& hv_D e ro rf y 16)) 16 0 = hv_fst (hv_pC e ro rf x y) 16 0 := by
  have hb : ∀ j, j < 32 → bt (hv_D e ro rf x 16 &&& hv_D e ro rf y 16) j = (decide (j < 16) && (bt (hv_K e ro rf j) x && bt (hv_K e ro rf j) y)) := by
    intro j hj
    rw [b_and, hv_Db e ro rf x 16 (Nat.le_refl _) j hj, hv_Db e ro rf y 16 (Nat.le_refl _) j hj]
    cases decide (j < 16) <;> cases bt (hv_K e ro rf j) x <;> cases bt (hv_K e ro rf j) y <;> rfl
  apply hv_fst_c
  intro k _ hk
  have hk : k < 16 := by omega
  unfold hv_pA hv_pC
  rw [hv_dec (q := hv_q e ro rf x y (-1) k) ?_ ?_, hb k (by omega), decide_eq_true hk]
  · cases bt (hv_K e ro rf k) x <;> cases bt (hv_K e ro rf k) y <;> simp
  · intro j h
    have hj := hv_lt32 h
    rw [hb j hj] at h
    by_cases g : j < 16
    · exact g
    · rw [decide_eq_false g] at h; simp at h
  · intro j hj
    have e1 : decide (nI j = -1) = false := by
      apply decide_eq_false
      intro g
      exact hv_neg hj (by rw [g]; decide)
    unfold hv_q
    rw [hb j (by omega), decide_eq_true hj, e1]
    cases bt (hv_K e ro rf j) x <;> cases bt (hv_K e ro rf j) y <;> simp
theorem i_vc0 (k0 : Int32) : wpX_init (fun u => wpY_init (fun v => i_Rel 1 u v) k0) k0 := by
  have ok : ∀ n, 1 ≤ n → n ≤ 16 → hv_ok (nI n) 0 0 (fun _ => 0) (fun _ => 0) := by
    intro n h1 h2
    refine ⟨⟨n, h1, h2, rfl⟩, ?_, ?_, ?_, fun _ _ _ => rfl, ?_⟩
    · intro j h; rw [b_0] at h; cases h
    · intro j h; exact h
    · intro a _ j h; exact h
    · intro a _ h; rw [b_0] at h; cases h
  by_cases h1 : 1 ≤ k0
  · by_cases h2 : k0 ≤ 16
    · have h0 : ¬ k0 < 0 := fun g => absurd (Int32.lt_of_le_of_lt h1 g) (by decide)
      obtain ⟨n, hn, rfl⟩ := nI_of h0
      have g1 : 1 ≤ n := (nI_leI (a := 1) (b := n) (by decide) hn).mp h1
      have g2 : n ≤ 16 := (nI_leI (a := n) (b := 16) hn (by decide)).mp h2
      exact br_t h1 (br_t h2 (br_t h1 (br_t h2 (hv_mk 1 _ (ok n g1 g2)))))
    · exact br_t h1 (br_f h2 (br_t h1 (br_f h2 (hv_mk 1 _ (ok 16 (by decide) (by decide))))))
  · exact br_f h1 (br_f h1 (hv_mk 1 _ (ok 1 (by decide) (by decide))))
theorem i_vc_objects {k : Nat} {u : SX} {v : SY} (I : i_Rel k u v) (hk : k + 3 ≤ 1537) : wpX_objects (fun r => wpY_objects (fun r' => r' = r ∧ i_Rel (k + 3) u v) v) u := by
  obtain ⟨c, e, ro, sz, rf, hd, rfl, rfl, ok⟩ := I
  exact ⟨rfl, hv_mk _ _ ok⟩
theorem i_vc_live {k : Nat} {u : SX} {v : SY} (I : i_Rel k u v) (hk : k + 3 ≤ 1537) : wpX_live (fun r => wpY_live (fun r' => r' = r ∧ i_Rel (k + 3) u v) v) u := by
  obtain ⟨c, e, ro, sz, rf, hd, rfl, rfl, ok⟩ := I
  unfold wpX_live
  dsimp only
  exact hx_L ok (hy_L ⟨rfl, hv_mk _ _ ok⟩)
theorem i_vc_keeper {k : Nat} {u : SX} {v : SY} (I : i_Rel k u v) (hk : k + 3 ≤ 1537) (v1 : Int32) : wpX_keeper (fun r => wpY_keeper (fun r' => r' = r ∧ i_Rel (k + 3) u v) v v1) u v1 := by
  obtain ⟨c, e, ro, sz, rf, hd, rfl, rfl, ok⟩ := I
  by_cases g : hv_ex (hv_L e ro rf) v1
  · obtain ⟨x, hx, rfl, z⟩ := g
    unfold wpX_keeper
    dsimp only
    refine hx_lv1 ok hx z (br_f hv_10 (hx_D ok hx (nm_e (hx_A ok _ ?_))))
    exact hy_keeper hx z ⟨(hv_keep hx).symm, hv_mk _ _ ok⟩
  · unfold wpX_keeper wpY_keeper
    dsimp only
    exact hx_lv0 ok g (br_t rfl (hy_lv0 g (br_t rfl ⟨rfl, hv_mk _ _ ok⟩)))
theorem i_vc_dominates {k : Nat} {u : SX} {v : SY} (I : i_Rel k u v) (hk : k + 3 ≤ 1537) (v1 : Int32) (v2 : Int32) : wpX_dominates (fun r => wpY_dominates (fun r' => r' = r ∧ i_Rel (k + 3) u v) v v1 v2) u v1 v2 := by
  obtain ⟨c, e, ro, sz, rf, hd, rfl, rfl, ok⟩ := I
  unfold wpX_dominates
  dsimp only
  by_cases g : hv_ex (hv_L e ro rf) v1
  · obtain ⟨a, ha, rfl, z⟩ := g
    refine hx_lv1 ok ha z (br_f hv_10 ?_)
    by_cases g2 : hv_ex (hv_L e ro rf) v2
    · obtain ⟨x, hx, rfl, z2⟩ := g2
      refine hx_lv1 ok hx z2 (br_f hv_10 (hx_K ok ha ?_))
      cases z3 : bt (hv_K e ro rf a) x
      · exact hx_f hx z3 ⟨rfl, hy_dm ha hx ⟨by rw [z3]; rfl, hv_mk _ _ ok⟩⟩
      · exact hx_t hx z3 ⟨rfl, hy_dm ha hx ⟨by rw [z3]; rfl, hv_mk _ _ ok⟩⟩
    · exact hx_lv0 ok g2 (br_t rfl (hy_dm1 ha g2 ⟨rfl, hv_mk _ _ ok⟩))
  · exact hx_lv0 ok g (br_t rfl (hy_dm0 g ⟨rfl, hv_mk _ _ ok⟩))
theorem i_vc_kept {k : Nat} {u : SX} {v : SY} (I : i_Rel k u v) (hk : k + 3 ≤ 1537) (v1 : Int32) : wpX_kept (fun r => wpY_kept (fun r' => r' = r ∧ i_Rel (k + 3) u v) v v1) u v1 := by
  obtain ⟨c, e, ro, sz, rf, hd, rfl, rfl, ok⟩ := I
  unfold wpX_kept
  dsimp only
  by_cases g : hv_ex (hv_L e ro rf) v1
  · obtain ⟨x, hx, rfl, z⟩ := g
    exact hx_lv1 ok hx z (br_f hv_10 (hx_K ok hx (hy_K hx ⟨rfl, hv_mk _ _ ok⟩)))
  · exact hx_lv0 ok g (br_t rfl (hy_K0 g ⟨rfl, hv_mk _ _ ok⟩))
theorem i_vc_retained {k : Nat} {u : SX} {v : SY} (I : i_Rel k u v) (hk : k + 3 ≤ 1537) (v1 : Int32) : wpX_retained (fun r => wpY_retained (fun r' => r' = r ∧ i_Rel (k + 3) u v) v v1) u v1 := by
  obtain ⟨c, e, ro, sz, rf, hd, rfl, rfl, ok⟩ := I
  unfold wpX_retained
  dsimp only
  by_cases g : hv_ex (hv_L e ro rf) v1
  · obtain ⟨x, hx, rfl, z⟩ := g
    exact hx_lv1 ok hx z (br_f hv_10 (hx_W ok hx (hy_W hx ⟨rfl, hv_mk _ _ ok⟩)))
  · exact hx_lv0 ok g (br_t rfl (hy_W0 g ⟨rfl, hv_mk _ _ ok⟩))
theorem i_vc_depth {k : Nat} {u : SX} {v : SY} (I : i_Rel k u v) (hk : k + 3 ≤ 1537) (v1 : Int32) : wpX_depth (fun r => wpY_depth (fun r' => r' = r ∧ i_Rel (k + 3) u v) v v1) u v1 := by
  obtain ⟨c, e, ro, sz, rf, hd, rfl, rfl, ok⟩ := I
  by_cases g : hv_ex (hv_L e ro rf) v1
  · obtain ⟨x, hx, rfl, z⟩ := g
    unfold wpX_depth
    dsimp only
    refine hx_lv1 ok hx z (br_f hv_10 (hx_D ok hx (nm_e (hx_cn _ ?_))))
    refine hy_depth hx z ⟨?_, hv_mk _ _ ok⟩
    apply congrArg nI
    apply hv_cn_c
    intro a ha
    rw [hv_others hx (by omega), decide_eq_true ha]
    unfold hv_pD
    cases bt (hv_K e ro rf a) x <;> cases decide (a = x) <;> rfl
  · unfold wpX_depth wpY_depth
    dsimp only
    exact hx_lv0 ok g (br_t rfl (hy_lv0 g (br_t rfl ⟨rfl, hv_mk _ _ ok⟩)))
theorem i_vc_common {k : Nat} {u : SX} {v : SY} (I : i_Rel k u v) (hk : k + 3 ≤ 1537) (v1 : Int32) (v2 : Int32) : wpX_common (fun r => wpY_common (fun r' => r' = r ∧ i_Rel (k + 3) u v) v v1 v2) u v1 v2 := by
  obtain ⟨c, e, ro, sz, rf, hd, rfl, rfl, ok⟩ := I
  by_cases g : hv_ex (hv_L e ro rf) v1
  · obtain ⟨x, hx, rfl, z⟩ := g
    by_cases g2 : hv_ex (hv_L e ro rf) v2
    · obtain ⟨y, hy, rfl, z2⟩ := g2
      unfold wpX_common
      dsimp only
      refine hx_lv1 ok hx z (br_f hv_10 (hx_lv1 ok hy z2 (br_f hv_10 (hx_D ok hx (hx_D ok hy (nm_e (hx_A ok _ ?_)))))))
      exact hy_common hx hy z z2 ⟨hv_comm.symm, hv_mk _ _ ok⟩
    · unfold wpX_common wpY_common
      dsimp only
      exact hx_lv1 ok hx z (br_f hv_10 (hx_lv0 ok g2 (br_t rfl (hy_lv1 hx z (br_f hv_10 (hy_lv0 g2 (br_t rfl ⟨rfl, hv_mk _ _ ok⟩)))))))
  · unfold wpX_common wpY_common
    dsimp only
    exact hx_lv0 ok g (br_t rfl (hy_lv0 g (br_t rfl ⟨rfl, hv_mk _ _ ok⟩)))
