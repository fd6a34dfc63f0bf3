/-! ===== the calls that change the heap ===== -/
theorem hv_ok_ro {c e ro ro' : Int32} {sz rf : Nat → Int32} (ok : hv_ok c e ro sz rf) (h : ∀ j, bt ro' j = true → bt e j = true) : hv_ok c e ro' sz rf := ⟨ok.1, ok.2.1, h, ok.2.2.2⟩
theorem hv_ok_rf {c e ro : Int32} {sz rf : Nat → Int32} (ok : hv_ok c e ro sz rf) {a : Nat} {w : Int32} (ha : bt e a = true) (h : ∀ j, bt w j = true → bt e j = true) : hv_ok c e ro sz (upd rf a w) := by
  obtain ⟨o1, o2, o3, o4, o5, o6⟩ := ok
  refine ⟨o1, o2, o3, ?_, ?_, o6⟩
  · intro b hb j
    by_cases q : b = a
    · subst q; rw [pk_us]; exact h j
    · rw [pk_un q]; exact o4 b hb j
  · intro b hb z
    have q : b ≠ a := by intro q; subst q; rw [ha] at z; cases z
    rw [pk_un q]; exact o5 b hb z
theorem hv_or1 {s e : Int32} {x j : Nat} (hx : x < 32) (hs : bt s j = true → bt e j = true) (he : bt e x = true) (h : bt (s ||| ((1 : Int32) <<< (nI x &&& 31))) j = true) : bt e j = true := by
  have hj := hv_lt32 h
  rw [b_or, hv_1 x hx j hj] at h
  by_cases q : j = x
  · subst q; exact he
  · rw [decide_eq_false q, Bool.or_false] at h; exact hs h
theorem hv_an {s g : Int32} {j : Nat} (h : bt (s &&& g) j = true) : bt s j = true := by
  rw [b_and] at h
  exact (Bool.and_eq_true_iff.mp h).1
theorem hv_mkc {c e ro : Int32} {sz rf : Nat → Int32} (ok : hv_ok c e ro sz rf) {i w : Nat} (hi : i < 16) (h1 : 1 ≤ w) (h2 : w ≤ 100) : hv_ok c (e ||| ((1 : Int32) <<< (nI i &&& 31))) ro (upd sz i (nI w)) rf := by
  obtain ⟨o1, o2, o3, o4, o5, o6⟩ := ok
  have hu : ∀ j, bt e j = true → bt (e ||| ((1 : Int32) <<< (nI i &&& 31))) j = true := by
    intro j h; rw [b_or, h]; rfl
  refine ⟨o1, ?_, fun j h => hu j (o3 j h), fun a ha j h => hu j (o4 a ha j h), ?_, ?_⟩
  · intro j h
    have hj := hv_lt32 h
    rw [b_or, hv_1 i (by omega) j hj] at h
    by_cases q : j = i
    · omega
    · rw [decide_eq_false q, Bool.or_false] at h; exact o2 j h
  · intro a ha z
    refine o5 a ha ?_
    cases y : bt e a
    · rfl
    · rw [hu a y] at z; cases z
  · intro a ha z
    by_cases q : a = i
    · subst q; exact ⟨w, h1, h2, pk_us⟩
    · rw [pk_un q]
      refine o6 a ha ?_
      rw [b_or, hv_1 i (by omega) a (by omega), decide_eq_false q, Bool.or_false] at z
      exact z
theorem hv_make {k : Nat} {c e ro : Int32} {sz rf hd : Nat → Int32} (ok : hv_ok c e ro sz rf) {w n : Nat} (h1 : 1 ≤ w) (h2 : w ≤ 100) (hn : n ≤ 16) (hc : c = nI n) : ∀ d i, i + d = n → ∃ (r : Int32) (u' : SX) (v' : SY), i_Rel (k + 3) u' v' ∧ (∀ post : Int32 → SX → Prop, post r u' → wX_make_15 post (nI w) c e ro sz rf (d + 1) (nI i)) ∧ (∀ post : Int32 → SY → Prop, post r v' → wY_make_15 post (nI w) c e ro sz rf hd (d + 1) (nI i)) := by
  subst hc
  intro d
  induction d with
  | zero =>
    intro i hi
    have hle : nI n ≤ nI i := nI_le (by omega) (by omega)
    exact ⟨-1, _, _, hv_mk (k + 3) hd ok, fun post hp => br_t hle hp, fun post hp => br_t hle hp⟩
  | succ d ih =>
    intro i hi
    have hi' : i < 16 := by omega
    have hle : ¬ nI n ≤ nI i := nI_ge (by omega) (by omega)
    cases z : bt e i
    · have hne : ¬ hv_ex e (nI i) := by
        intro ⟨y, hy, g1, g2⟩
        rw [nI_eq (by omega) (by omega)] at g1
        subst g1
        rw [z] at g2
        cases g2
      have hz : upd rf i 0 = rf := by
        funext j
        by_cases q : j = i
        · subst q; rw [pk_us, ok.2.2.2.2.1 j hi' z]
        · rw [pk_un q]
      refine ⟨nI i, _, _, hv_mk (k + 3) hd (hv_mkc ok hi' h1 h2), fun post hp => ?_, fun post hp => ?_⟩
      · exact br_f hle (hx_f hi' z (br_t rfl (nm_e ⟨hv_in16 hi', nm_r (by rw [hv_cl hi']) hp⟩)))
      · exact br_f hle (br_f (hv_16 hi') (hy_ex0 hne (br_t rfl (nm_e ⟨hv_in16 hi', nm_r (by rw [hv_cl hi']) ⟨hv_in16 hi', nm_r (by rw [hv_cl hi', hz]) hp⟩⟩))))
    · obtain ⟨r, u', v', g1, g2, g3⟩ := ih (i + 1) (by omega)
      exact ⟨r, u', v', g1, fun post hp => br_f hle (hx_t hi' z (br_f hv_10 (nm_r (nI_1 i) (g2 post hp)))), fun post hp => br_f hle (br_f (hv_16 hi') (hy_ex1 hi' z (br_f hv_10 (nm_r (nI_1 i) (g3 post hp)))))⟩
theorem i_vc_make {k : Nat} {u : SX} {v : SY} (I : i_Rel k u v) (hk : k + 3 ≤ 1537) (v1 : Int32) : wpX_make (fun r u' => wpY_make (fun r' v' => r' = r ∧ i_Rel (k + 3) u' v') v v1) u v1 := by
  obtain ⟨c, e, ro, sz, rf, hd, rfl, rfl, ok⟩ := I
  by_cases h1 : v1 < 1
  · exact br_t h1 (br_t h1 ⟨rfl, hv_mk _ _ ok⟩)
  · by_cases h2 : v1 ≤ 100
    · have h0 : ¬ v1 < 0 := fun g => h1 (Int32.lt_trans g (by decide))
      obtain ⟨w, hw, rfl⟩ := nI_of h0
      have g1 : ¬ w < 1 := fun g => h1 ((nI_ltI (a := w) (b := 1) hw (by decide)).mpr g)
      have g2 : w ≤ 100 := (nI_leI (a := w) (b := 100) hw (by decide)).mp h2
      obtain ⟨n, n1, n2, hc⟩ := ok.1
      obtain ⟨r, u', v', q1, q2, q3⟩ := hv_make (k := k) (hd := hd) ok (by omega) g2 n2 hc n 0 (by omega)
      exact br_f h1 (br_t h2 ⟨n + 1, q2 _ (br_f h1 (br_t h2 ⟨n + 1, q3 _ ⟨rfl, q1⟩⟩))⟩)
    · exact br_f h1 (br_f h2 (br_f h1 (br_f h2 ⟨rfl, hv_mk _ _ ok⟩)))
theorem i_vc_setRoot {k : Nat} {u : SX} {v : SY} (I : i_Rel k u v) (hk : k + 3 ≤ 1537) (v1 : Int32) (v2 : Int32) : wpX_setRoot (fun r u' => wpY_setRoot (fun r' v' => r' = r ∧ i_Rel (k + 3) u' v') v v1 (lw_bz v2)) u v1 (lw_bz v2) := by
  obtain ⟨c, e, ro, sz, rf, hd, rfl, rfl, ok⟩ := I
  unfold wpX_setRoot wpY_setRoot
  dsimp only
  by_cases g : hv_ex e v1
  · obtain ⟨x, hx, rfl, z⟩ := g
    refine hx_ex1 hx z (br_f hv_10 ?_)
    by_cases h : lw_bz v2 = 0
    · exact br_t h (nm_e (hy_ex1 hx z (br_f hv_10 (br_t h (nm_e ⟨rfl, hv_mk _ _ (hv_ok_ro ok (fun j hj => ok.2.2.1 j (hv_an hj)))⟩)))))
    · exact br_f h (nm_e (hy_ex1 hx z (br_f hv_10 (br_f h (nm_e ⟨rfl, hv_mk _ _ (hv_ok_ro ok (fun j hj => hv_or1 (by omega) (ok.2.2.1 j) z hj))⟩)))))
  · exact hx_ex0 g (br_t rfl (hy_ex0 g (br_t rfl ⟨rfl, hv_mk _ _ ok⟩)))
theorem i_vc_refer {k : Nat} {u : SX} {v : SY} (I : i_Rel k u v) (hk : k + 3 ≤ 1537) (v1 : Int32) (v2 : Int32) : wpX_refer (fun r u' => wpY_refer (fun r' v' => r' = r ∧ i_Rel (k + 3) u' v') v v1 v2) u v1 v2 := by
  obtain ⟨c, e, ro, sz, rf, hd, rfl, rfl, ok⟩ := I
  unfold wpX_refer wpY_refer
  dsimp only
  by_cases g : hv_ex e v1
  · obtain ⟨a, ha, rfl, z⟩ := g
    refine hx_ex1 ha z (br_f hv_10 ?_)
    by_cases g2 : hv_ex e v2
    · obtain ⟨b, hb, rfl, z2⟩ := g2
      refine hx_ex1 hb z2 (br_f hv_10 ⟨hv_in16 ha, hv_in16 ha, nm_e (hy_ex1 ha z (br_f hv_10 (hy_ex1 hb z2 (br_f hv_10 ⟨hv_in16 ha, hv_in16 ha, nm_e ⟨rfl, hv_mk _ _ ?_⟩⟩))))⟩)
      rw [hv_cl ha]
      exact hv_ok_rf ok z (fun j hj => hv_or1 (by omega) (ok.2.2.2.1 a ha j) z2 hj)
    · exact hx_ex0 g2 (br_t rfl (hy_ex1 ha z (br_f hv_10 (hy_ex0 g2 (br_t rfl ⟨rfl, hv_mk _ _ ok⟩)))))
  · exact hx_ex0 g (br_t rfl (hy_ex0 g (br_t rfl ⟨rfl, hv_mk _ _ ok⟩)))
theorem i_vc_forget {k : Nat} {u : SX} {v : SY} (I : i_Rel k u v) (hk : k + 3 ≤ 1537) (v1 : Int32) (v2 : Int32) : wpX_forget (fun r u' => wpY_forget (fun r' v' => r' = r ∧ i_Rel (k + 3) u' v') v v1 v2) u v1 v2 := by
  obtain ⟨c, e, ro, sz, rf, hd, rfl, rfl, ok⟩ := I
  unfold wpX_forget wpY_forget
  dsimp only
  by_cases g : hv_ex e v1
  · obtain ⟨a, ha, rfl, z⟩ := g
    refine hx_ex1 ha z (br_f hv_10 ?_)
    by_cases g2 : hv_ex e v2
    · obtain ⟨b, hb, rfl, z2⟩ := g2
      cases z3 : bt (rf (nI a).toNatClampNeg) b
      · exact hx_ex1 hb z2 (br_f hv_10 ⟨hv_in16 ha, hx_f hb z3 (br_t rfl (hy_ex1 ha z (br_f hv_10 (hy_ex1 hb z2 (br_f hv_10 ⟨hv_in16 ha, br_t (hv_gf (by omega) z3) ⟨rfl, hv_mk _ _ ok⟩⟩)))))⟩)
      · refine hx_ex1 hb z2 (br_f hv_10 ⟨hv_in16 ha, hx_t hb z3 (br_f hv_10 ⟨hv_in16 ha, hv_in16 ha, nm_e (hy_ex1 ha z (br_f hv_10 (hy_ex1 hb z2 (br_f hv_10 ⟨hv_in16 ha, br_f (hv_gz (by omega) z3) ⟨hv_in16 ha, hv_in16 ha, nm_e ⟨rfl, hv_mk _ _ ?_⟩⟩⟩))))⟩)⟩)
        rw [hv_cl ha]
        exact hv_ok_rf ok z (fun j hj => ok.2.2.2.1 a ha j (hv_an hj))
    · exact hx_ex0 g2 (br_t rfl (hy_ex1 ha z (br_f hv_10 (hy_ex0 g2 (br_t rfl ⟨rfl, hv_mk _ _ ok⟩)))))
  · exact hx_ex0 g (br_t rfl (hy_ex0 g (br_t rfl ⟨rfl, hv_mk _ _ ok⟩)))
/-! ===== taking a set g of objects away ===== -/
def hv_rm (g : Int32) (rf : Nat → Int32) (i : Nat) : Nat → Int32 := fun a => if a < i then (if bt g a = true then 0 else rf a &&& (g ^^^ (-1))) else rf a
theorem hv_rm_0 (g : Int32) (rf : Nat → Int32) : hv_rm g rf 0 = rf := funext fun a => if_neg (Nat.not_lt_zero a)
theorem hv_rm_i (g : Int32) (rf : Nat → Int32) (i : Nat) : hv_rm g rf i i = rf i := if_neg (Nat.lt_irrefl i)
theorem hv_rm_s {g : Int32} {rf : Nat → Int32} {i : Nat} {w : Int32} (h : w = if bt g i = true then 0 else rf i &&& (g ^^^ (-1))) : upd (hv_rm g rf i) i w = hv_rm g rf (i + 1) := by
  funext a
  by_cases q : a = i
  · subst q
    rw [pk_us, h]
    exact (if_pos (Nat.lt_succ_self a)).symm
  · rw [pk_un q]
    unfold hv_rm
    by_cases l : a < i
    · rw [if_pos l, if_pos (show a < i + 1 by omega)]
    · rw [if_neg l, if_neg (show ¬ a < i + 1 by omega)]
theorem hx_rm {post : SX → Prop} {c e ro : Int32} {sz rf : Nat → Int32} (g : Int32) (hp : post (c, e &&& (g ^^^ (-1)), ro &&& (g ^^^ (-1)), sz, hv_rm g rf 16)) : wpX_removeAll post (c, e, ro, sz, rf) g := by
  have key : ∀ d i, i + d = 16 → wX_removeAll_26 post g c (e &&& (g ^^^ (-1))) (ro &&& (g ^^^ (-1))) (d + 1) (nI i) sz (hv_rm g rf i) := by
    intro d
    induction d with
    | zero =>
      intro i hi
      obtain rfl : i = 16 := by omega
      exact br_t hv_16e hp
    | succ d ih =>
      intro i hi
      have h := ih (i + 1) (by omega)
      have hi' : i < 16 := by omega
      refine br_f (hv_16 hi') ?_
      cases z : bt g i
      · refine hx_f hi' z (br_t rfl ⟨hv_in16 hi', hv_in16 hi', nm_r ?_ (nm_r (nI_1 i) h)⟩)
        rw [hv_cl hi', hv_rm_i]
        exact hv_rm_s (by rw [z]; rfl)
      · refine hx_t hi' z (br_f hv_10 ⟨hv_in16 hi', nm_r ?_ (nm_r (nI_1 i) h)⟩)
        rw [hv_cl hi']
        exact hv_rm_s (by rw [z]; rfl)
  refine nm_e (nm_e ⟨17, ?_⟩)
  have h := key 16 0 rfl
  rw [hv_rm_0] at h
  exact h
theorem hy_rm {post : Int32 → SY → Prop} {c e ro : Int32} {sz rf hd : Nat → Int32} {x : Nat} (hx : x < 16) (hz : bt e x = true) (hp : post 1 (c, e &&& (((1 : Int32) <<< (nI x &&& 31)) ^^^ (-1)), ro &&& (((1 : Int32) <<< (nI x &&& 31)) ^^^ (-1)), sz, hv_rm ((1 : Int32) <<< (nI x &&& 31)) rf 16, hd)) : wpY_destroy post (c, e, ro, sz, rf, hd) (nI x) := by
  have key : ∀ d i, i + d = 16 → wY_destroy_40 post (nI x) c (e &&& (((1 : Int32) <<< (nI x &&& 31)) ^^^ (-1))) (ro &&& (((1 : Int32) <<< (nI x &&& 31)) ^^^ (-1))) (d + 1) (nI i) sz (hv_rm ((1 : Int32) <<< (nI x &&& 31)) rf i) hd := by
    intro d
    induction d with
    | zero =>
      intro i hi
      obtain rfl : i = 16 := by omega
      exact br_t hv_16e hp
    | succ d ih =>
      intro i hi
      have h := ih (i + 1) (by omega)
      have hi' : i < 16 := by omega
      have hb := hv_1 x (by omega) i (by omega)
      refine br_f (hv_16 hi') ?_
      by_cases q : i = x
      · rw [decide_eq_true q] at hb
        refine br_t (by rw [q]) ⟨hv_in16 hi', nm_r ?_ (nm_r (nI_1 i) h)⟩
        rw [hv_cl hi']
        exact hv_rm_s (by rw [hb]; rfl)
      · rw [decide_eq_false q] at hb
        refine br_f (by rw [nI_eq (by omega) (by omega)]; exact q) ⟨hv_in16 hi', hv_in16 hi', nm_r ?_ (nm_r (nI_1 i) h)⟩
        rw [hv_cl hi', hv_rm_i]
        exact hv_rm_s (by rw [hb]; rfl)
  unfold wpY_destroy
  dsimp only
  refine hy_ex1 hx hz (br_f hv_10 (nm_e (nm_e ⟨17, ?_⟩)))
  have h := key 16 0 rfl
  rw [hv_rm_0] at h
  exact h
theorem hv_rm_ok {c e ro : Int32} {sz rf : Nat → Int32} (ok : hv_ok c e ro sz rf) (g : Int32) : hv_ok c (e &&& (g ^^^ (-1))) (ro &&& (g ^^^ (-1))) sz (hv_rm g rf 16) := by
  obtain ⟨o1, o2, o3, o4, o5, o6⟩ := ok
  have hsub : ∀ s, (∀ j, bt s j = true → bt e j = true) → ∀ j, bt (s &&& (g ^^^ (-1))) j = true → bt (e &&& (g ^^^ (-1))) j = true := by
    intro s hs j h
    rw [b_and] at h ⊢
    obtain ⟨h1, h2⟩ := Bool.and_eq_true_iff.mp h
    rw [hs j h1, h2]
    rfl
  refine ⟨o1, fun j h => o2 j (hv_an h), hsub ro o3, ?_, ?_, fun a ha h => o6 a ha (hv_an h)⟩
  · intro a ha j h
    have e1 : hv_rm g rf 16 a = if bt g a = true then 0 else rf a &&& (g ^^^ (-1)) := if_pos ha
    rw [e1] at h
    by_cases z : bt g a = true
    · rw [if_pos z, b_0] at h; cases h
    · rw [if_neg z] at h; exact hsub (rf a) (o4 a ha) j h
  · intro a ha h
    have e1 : hv_rm g rf 16 a = if bt g a = true then 0 else rf a &&& (g ^^^ (-1)) := if_pos ha
    rw [e1]
    by_cases z : bt g a = true
    · rw [if_pos z]
    · rw [if_neg z, o5 a ha, Int32.zero_and]
      cases y : bt e a
      · rfl
      · rw [b_and, y, hv_not g (by omega)] at h
        cases w : bt g a
        · rw [w] at h; cases h
        · exact absurd w z
theorem i_vc_destroy {k : Nat} {u : SX} {v : SY} (I : i_Rel k u v) (hk : k + 3 ≤ 1537) (v1 : Int32) : wpX_destroy (fun r u' => wpY_destroy (fun r' v' => r' = r ∧ i_Rel (k + 3) u' v') v v1) u v1 := by
  obtain ⟨c, e, ro, sz, rf, hd, rfl, rfl, ok⟩ := I
  by_cases g : hv_ex e v1
  · obtain ⟨x, hx, rfl, z⟩ := g
    unfold wpX_destroy
    dsimp only
    refine hx_ex1 hx z (br_f hv_10 (hx_rm _ ?_))
    dsimp only
    exact hy_rm hx z ⟨rfl, hv_mk _ _ (hv_rm_ok ok _)⟩
  · unfold wpX_destroy wpY_destroy
    dsimp only
    exact hx_ex0 g (br_t rfl (hy_ex0 g (br_t rfl ⟨rfl, hv_mk _ _ ok⟩)))
