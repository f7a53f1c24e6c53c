theorem cv_pN {x : Int32} {c : Nat} {f : Nat → Int32} (hc : c ≤ 20) (h : cv_par f c) (e : x = f c) : (x = -1 ∧ x < 0) ∨ (∃ p, p < c ∧ x = nI p ∧ ¬ x = -1 ∧ ¬ x < 0) := by
  subst e
  rcases h with h | ⟨p, hp, h⟩
  · rw [h]
    exact Or.inl ⟨rfl, by decide⟩
  · rw [h]
    have h0 : ¬ nI p < 0 := nI_pos (by omega)
    exact Or.inr ⟨p, hp, rfl, fun z => h0 (by rw [z]; decide), h0⟩
theorem i_vc_commits {k : Nat} {u : SX} {v : SY} (I : i_Rel k u v) (hk : k + 4 ≤ 2048) : wpX_commits (fun r => wpY_commits (fun r' => r' = r ∧ i_Rel (k + 4) u v) v) u := by
  have J := i_up I
  obtain ⟨n, b, P, V, T, W, fp, sp, an, hd, rfl, rfl, I⟩ := I
  exact ⟨rfl, J⟩
theorem i_vc_current {k : Nat} {u : SX} {v : SY} (I : i_Rel k u v) (hk : k + 4 ≤ 2048) : wpX_current (fun r => wpY_current (fun r' => r' = r ∧ i_Rel (k + 4) u v) v) u := by
  have J := i_up I
  obtain ⟨n, b, P, V, T, W, fp, sp, an, hd, rfl, rfl, I⟩ := I
  exact ⟨rfl, J⟩
theorem i_vc_head {k : Nat} {u : SX} {v : SY} (I : i_Rel k u v) (hk : k + 4 ≤ 2048) (v1 : Int32) : wpX_head (fun r => wpY_head (fun r' => r' = r ∧ i_Rel (k + 4) u v) v v1) u v1 := by
  have J := i_up I
  obtain ⟨n, b, P, V, T, W, fp, sp, an, hd, rfl, rfl, I⟩ := I
  unfold wpX_head wpY_head
  rcases cv_ix v1 4 (by omega) with h | ⟨j, hj, rfl⟩
  · exact cx_bb h (br_t rfl (cy_bb h (br_f (by decide) ⟨rfl, J⟩)))
  · have i := vp_in_nI (n := j) (N := 4) hj (by omega)
    exact cx_bo rfl hj (br_f (by decide) ⟨i, cy_bo rfl hj (br_t rfl ⟨i, rfl, J⟩)⟩)
theorem cv_parX {post : Int32 → Prop} {f : Nat → Int32} {c : Nat} {cc cb : Int32} {P V fp sp an hd : Nat → Int32} (hc : c ≤ 20) (h : cv_par f c) : ∃ r, (∀ post : Int32 → Prop, post r → wX_parent_29 post (f c) cc cb P V fp sp an hd) ∧ (∀ (ct nw : Int32) (T W fs sc hs : Nat → Int32) (post : Int32 → Prop), post r → wY_parent_29 post (f c) ct nw T W fs sc hs) := by
  rcases cv_pN hc h rfl with ⟨e, e'⟩ | ⟨p, hp, e, e1, e2⟩
  · exact ⟨-2, fun post H => br_t e H, fun _ _ _ _ _ _ _ post H => br_f (Int32.not_le.mpr e') H⟩
  · exact ⟨f c, fun post H => br_f e1 H, fun _ _ _ _ _ _ _ post H => br_t (Int32.not_lt.mp e2) H⟩
theorem i_vc_parent {k : Nat} {u : SX} {v : SY} (I : i_Rel k u v) (hk : k + 4 ≤ 2048) (v1 : Int32) (v2 : Int32) : wpX_parent (fun r => wpY_parent (fun r' => r' = r ∧ i_Rel (k + 4) u v) v v1 v2) u v1 v2 := by
  have J := i_up I
  obtain ⟨n, b, P, V, T, W, fp, sp, an, hd, rfl, rfl, ⟨hn, hb, R, hH, hP, hA⟩⟩ := I
  unfold wpX_parent wpY_parent
  rcases cv_ix v1 n (by omega) with h | ⟨j, hj, rfl⟩
  · exact cx_mb rfl h (br_t rfl (cy_mb rfl h (br_f (by decide) ⟨rfl, J⟩)))
  · have i := vp_in_nI (n := j) (N := 20) (by omega) (by omega)
    refine cx_mo rfl hn.2 rfl hj (br_f (by decide) ?_)
    rw [nI_clamp (n := j) (by omega)]
    by_cases e : v2 = 0
    · obtain ⟨r, hX, hY⟩ := cv_parX (post := fun _ => True) (cc := nI n) (cb := nI b) (P := P) (V := V) (fp := fp) (sp := sp) (an := an) (hd := hd) (by omega) (hP j hj).1
      exact br_t e ⟨i, hX _ (cy_mo rfl hn.2 rfl hj (br_t rfl (br_t e ⟨i, hY _ _ _ _ _ _ _ _ ⟨rfl, J⟩⟩)))⟩
    · obtain ⟨r, hX, hY⟩ := cv_parX (post := fun _ => True) (cc := nI n) (cb := nI b) (P := P) (V := V) (fp := fp) (sp := sp) (an := an) (hd := hd) (by omega) (hP j hj).2
      exact br_f e ⟨i, hX _ (cy_mo rfl hn.2 rfl hj (br_t rfl (br_f e ⟨i, hY _ _ _ _ _ _ _ _ ⟨rfl, J⟩⟩)))⟩
theorem i_vc_clean {k : Nat} {u : SX} {v : SY} (I : i_Rel k u v) (hk : k + 4 ≤ 2048) : wpX_clean (fun r => wpY_clean (fun r' => r' = r ∧ i_Rel (k + 4) u v) v) u := by
  have J := i_up I
  obtain ⟨n, b, P, V, T, W, fp, sp, an, hd, rfl, rfl, ⟨hn, hb, R, hH, hP, hA⟩⟩ := I
  unfold wpX_clean wpY_clean
  obtain ⟨h, hh, eh⟩ := hH b hb
  refine cx_cl b h rfl hb eh (by omega) (cv_br (fun z => ?_) (fun z => ?_))
  · refine cy_cl R b h rfl hb eh (by omega) ?_
    rw [z]
    exact br_t rfl ⟨rfl, J⟩
  · refine cy_cl R b h rfl hb eh (by omega) ?_
    rw [z]
    exact br_f (by decide) ⟨rfl, J⟩
theorem i_vc_has {k : Nat} {u : SX} {v : SY} (I : i_Rel k u v) (hk : k + 4 ≤ 2048) (v1 : Int32) : wpX_has (fun r => wpY_has (fun r' => r' = r ∧ i_Rel (k + 4) u v) v v1) u v1 := by
  have J := i_up I
  obtain ⟨n, b, P, V, T, W, fp, sp, an, hd, rfl, rfl, ⟨hn, hb, R, hH, hP, hA⟩⟩ := I
  unfold wpX_has wpY_has
  rcases cv_ix v1 64 (by omega) with h | ⟨j, hj, rfl⟩
  · exact cx_kb h (br_t rfl (cy_kb h (br_f (by decide) ⟨rfl, J⟩)))
  · refine cx_ko rfl hj (br_f (by decide) (cx_pr 20 j rfl rfl (by omega) hj (cy_ko rfl hj (br_t rfl ?_))))
    rw [cv_cw j, nI_clamp (n := 64 * 20 + j) (by omega), (R (64 * 20 + j) (by omega)).1]
    refine ⟨vp_in_nI (by omega) (by omega), br_c (fun z => ?_) (fun z => ?_)⟩
    · rw [decide_eq_true z]
      exact ⟨rfl, J⟩
    · rw [decide_eq_false z]
      exact ⟨rfl, J⟩
theorem i_vc_value {k : Nat} {u : SX} {v : SY} (I : i_Rel k u v) (hk : k + 4 ≤ 2048) (v1 : Int32) : wpX_value (fun r => wpY_value (fun r' => r' = r ∧ i_Rel (k + 4) u v) v v1) u v1 := by
  have J := i_up I
  obtain ⟨n, b, P, V, T, W, fp, sp, an, hd, rfl, rfl, ⟨hn, hb, R, hH, hP, hA⟩⟩ := I
  unfold wpX_value wpY_value wpX_cellOf
  rcases cv_ix v1 64 (by omega) with h | ⟨j, hj, rfl⟩
  · exact cx_kb h (br_t rfl (cy_kb h (br_f (by decide) ⟨rfl, J⟩)))
  · refine cx_ko rfl hj (br_f (by decide) ?_)
    dsimp only
    rw [show (20 : Int32) * 64 + nI j = nI (64 * 20 + j) from cv_cx 20 j, cv_cw j, nI_clamp (n := 64 * 20 + j) (by omega)]
    obtain ⟨t, -, v0, w⟩ := R (64 * 20 + j) (by omega)
    have i := vp_in_nI (n := 64 * 20 + j) (N := 1408) (by omega) (by omega)
    refine ⟨vp_in_nI (by omega) (by omega), cy_ko rfl hj (br_t rfl ⟨i, br_c (fun z => ?_) (fun z => ?_)⟩)⟩
    · rw [t] at z
      exact ⟨(v0 z).symm, J⟩
    · rw [t] at z
      exact ⟨i, w z, J⟩
theorem i_vc_hasIn {k : Nat} {u : SX} {v : SY} (I : i_Rel k u v) (hk : k + 4 ≤ 2048) (v1 : Int32) (v2 : Int32) : wpX_hasIn (fun r => wpY_hasIn (fun r' => r' = r ∧ i_Rel (k + 4) u v) v v1 v2) u v1 v2 := by
  have J := i_up I
  obtain ⟨n, b, P, V, T, W, fp, sp, an, hd, rfl, rfl, ⟨hn, hb, R, hH, hP, hA⟩⟩ := I
  unfold wpX_hasIn wpY_hasIn
  rcases cv_ix v1 n (by omega) with h | ⟨c, hc, rfl⟩
  · exact cx_mb rfl h (br_t rfl (cy_mb rfl h (br_f (by decide) ⟨rfl, J⟩)))
  · rcases cv_ix v2 64 (by omega) with h | ⟨j, hj, rfl⟩
    · exact cx_mo rfl hn.2 rfl hc (br_f (by decide) (cx_kb h (br_t rfl (cy_mo rfl hn.2 rfl hc (br_t rfl (cy_kb h (br_f (by decide) ⟨rfl, J⟩)))))))
    · refine cx_mo rfl hn.2 rfl hc (br_f (by decide) (cx_ko rfl hj (br_f (by decide) (cx_pr c j rfl rfl (by omega) hj (cy_mo rfl hn.2 rfl hc (br_t rfl (cy_ko rfl hj (br_t rfl ?_))))))))
      rw [cv_cy c j, nI_clamp (n := 64 * c + j) (by omega), (R (64 * c + j) (by omega)).1]
      refine ⟨vp_in_nI (by omega) (by omega), br_c (fun z => ?_) (fun z => ?_)⟩
      · rw [decide_eq_true z]
        exact ⟨rfl, J⟩
      · rw [decide_eq_false z]
        exact ⟨rfl, J⟩
theorem i_vc_valueIn {k : Nat} {u : SX} {v : SY} (I : i_Rel k u v) (hk : k + 4 ≤ 2048) (v1 : Int32) (v2 : Int32) : wpX_valueIn (fun r => wpY_valueIn (fun r' => r' = r ∧ i_Rel (k + 4) u v) v v1 v2) u v1 v2 := by
  have J := i_up I
  obtain ⟨n, b, P, V, T, W, fp, sp, an, hd, rfl, rfl, ⟨hn, hb, R, hH, hP, hA⟩⟩ := I
  unfold wpX_valueIn wpY_valueIn wpX_cellOf
  rcases cv_ix v1 n (by omega) with h | ⟨c, hc, rfl⟩
  · exact cx_mb rfl h (br_t rfl (cy_mb rfl h (br_f (by decide) ⟨rfl, J⟩)))
  · rcases cv_ix v2 64 (by omega) with h | ⟨j, hj, rfl⟩
    · exact cx_mo rfl hn.2 rfl hc (br_f (by decide) (cx_kb h (br_t rfl (cy_mo rfl hn.2 rfl hc (br_t rfl (cy_kb h (br_f (by decide) ⟨rfl, J⟩)))))))
    · refine cx_mo rfl hn.2 rfl hc (br_f (by decide) (cx_ko rfl hj (br_f (by decide) ?_)))
      dsimp only
      rw [cv_cx c j, cv_cy c j, nI_clamp (n := 64 * c + j) (by omega)]
      obtain ⟨t, -, v0, w⟩ := R (64 * c + j) (by omega)
      have i := vp_in_nI (n := 64 * c + j) (N := 1408) (by omega) (by omega)
      refine ⟨vp_in_nI (by omega) (by omega), cy_mo rfl hn.2 rfl hc (br_t rfl (cy_ko rfl hj (br_t rfl ⟨i, br_c (fun z => ?_) (fun z => ?_)⟩)))⟩
      · rw [t] at z
        exact ⟨(v0 z).symm, J⟩
      · rw [t] at z
        exact ⟨i, w z, J⟩
theorem cx_szl {post : Int32 → Prop} {x1 : Int32} {cc cb : Int32} {P V fp sp an hd : Nat → Int32} (c : Nat) (e : x1 = nI c) (hc : c < 21) (h : post (cv_ct (fun k => !decide (P (64 * c + k) = 0)) 64)) : ∀ d i, i + d = 64 → wX_size_14 post x1 cc cb P V fp sp an hd (d + 1) (cv_ct (fun k => !decide (P (64 * c + k) = 0)) i) (nI i) := by
  intro d
  induction d with
  | zero =>
    intro i hi
    obtain rfl : i = 64 := by omega
    exact br_t cv_e64 h
  | succ d ih =>
    intro i hi
    have hi' : i < 64 := by omega
    refine br_f (cv_64 hi') (cx_pr c i e rfl hc hi' (nm_r (e' := cv_ct (fun k => !decide (P (64 * c + k) = 0)) (i + 1)) ?_ (nm_r (nI_1 i) (ih (i + 1) (by omega)))))
    cases z : (!decide (P (64 * c + i) = 0))
    · rw [← cv_ct_f (q := fun k => !decide (P (64 * c + k) = 0)) z]
      exact Int32.add_zero _
    · exact cv_ct_t (q := fun k => !decide (P (64 * c + k) = 0)) z
theorem cy_szl {post : Int32 → Prop} {x1 : Int32} {ct nw : Int32} {P V T W fs sc hs : Nat → Int32} (R : cv_R P V T W) (c : Nat) (e : x1 = nI c) (hc : c < 21) (h : post (cv_ct (fun k => !decide (P (64 * c + k) = 0)) 64)) : ∀ d i, i + d = 64 → wY_size_14 post x1 ct nw T W fs sc hs (d + 1) (cv_ct (fun k => !decide (P (64 * c + k) = 0)) i) (nI i) := by
  subst e
  intro d
  induction d with
  | zero =>
    intro i hi
    obtain rfl : i = 64 := by omega
    exact br_t cv_e64 h
  | succ d ih =>
    intro i hi
    have hi' : i < 64 := by omega
    refine br_f (cv_64 hi') ?_
    rw [cv_cy c i, nI_clamp (n := 64 * c + i) (by omega), (R (64 * c + i) (by omega)).1]
    refine ⟨vp_in_nI (by omega) (by omega), br_c (fun z => ?_) (fun z => ?_)⟩
    · rw [cv_ct_f (q := fun k => !decide (P (64 * c + k) = 0)) (i := i) (by rw [decide_eq_true z]; rfl)]
      exact nm_r (nI_1 i) (ih (i + 1) (by omega))
    · exact nm_r (cv_ct_t (q := fun k => !decide (P (64 * c + k) = 0)) (by rw [decide_eq_false z]; rfl)) (nm_r (nI_1 i) (ih (i + 1) (by omega)))
theorem cx_sz {post : Int32 → Prop} {x1 : Int32} {cc cb : Int32} {P V fp sp an hd : Nat → Int32} (c : Nat) (e : x1 = nI c) (hc : c < 21) (h : post (cv_ct (fun k => !decide (P (64 * c + k) = 0)) 64)) : ∃ n, wX_size_14 post x1 cc cb P V fp sp an hd n 0 0 := ⟨65, cx_szl c e hc h 64 0 rfl⟩
theorem cy_sz {post : Int32 → Prop} {x1 : Int32} {ct nw : Int32} {P V T W fs sc hs : Nat → Int32} (R : cv_R P V T W) (c : Nat) (e : x1 = nI c) (hc : c < 21) (h : post (cv_ct (fun k => !decide (P (64 * c + k) = 0)) 64)) : ∃ n, wY_size_14 post x1 ct nw T W fs sc hs n 0 0 := ⟨65, cy_szl R c e hc h 64 0 rfl⟩
theorem i_vc_size {k : Nat} {u : SX} {v : SY} (I : i_Rel k u v) (hk : k + 4 ≤ 2048) (v1 : Int32) : wpX_size (fun r => wpY_size (fun r' => r' = r ∧ i_Rel (k + 4) u v) v v1) u v1 := by
  have J := i_up I
  obtain ⟨n, b, P, V, T, W, fp, sp, an, hd, rfl, rfl, ⟨hn, hb, R, hH, hP, hA⟩⟩ := I
  unfold wpX_size wpY_size
  rcases cv_ix v1 n (by omega) with h | ⟨c, hc, rfl⟩
  · exact cx_mb rfl h (br_t rfl (cy_mb rfl h (br_f (by decide) ⟨rfl, J⟩)))
  · refine cx_mo rfl hn.2 rfl hc (br_f (by decide) (cx_sz c rfl (by omega) ?_))
    exact cy_mo rfl hn.2 rfl hc (br_t rfl (cy_sz R c rfl (by omega) ⟨rfl, J⟩))
