theorem cv_nd {cc cb ct nw x1 x2 : Int32} {P V fp sp an hd T W fs sc hs : Nat → Int32} (R : cv_R P V T W) (a b : Nat) (e1 : x1 = nI a) (e2 : x2 = nI b) (ha : a < 21) (hb : b < 21) (x3 : Int32) : ∀ d i, i + d = 64 → ∃ r, (∀ post : Int32 → Prop, post r → wX_nextDifference_21 post x1 x2 x3 cc cb P V fp sp an hd (d + 1) (nI i)) ∧ (∀ post : Int32 → Prop, post r → wY_nextDifference_21 post x1 x2 x3 ct nw T W fs sc hs (d + 1) (nI i)) := by
  intro d
  induction d with
  | zero =>
    intro i hi
    obtain rfl : i = 64 := by omega
    exact ⟨-2, fun post H => br_t cv_e64 H, fun post H => br_t cv_e64 H⟩
  | succ d ih =>
    intro i hi
    have hi' : i < 64 := by omega
    obtain ⟨r, hX, hY⟩ := ih (i + 1) (by omega)
    by_cases h : nI i ≤ x3
    · exact ⟨r, fun post H => br_f (cv_64 hi') (br_t h (nm_r (nI_1 i) (hX post H))), fun post H => br_f (cv_64 hi') (br_t h (nm_r (nI_1 i) (hY post H)))⟩
    · cases z : cv_ag P V a b i
      · refine ⟨nI i, fun post H => br_f (cv_64 hi') (br_f h (cx_ag a b i e1 e2 rfl ha hb hi' ?_)), fun post H => br_f (cv_64 hi') (br_f h (cy_ag R a b i e1 e2 rfl ha hb hi' ?_))⟩
        · rw [z]
          exact br_t rfl H
        · rw [z]
          exact br_t rfl H
      · refine ⟨r, fun post H => br_f (cv_64 hi') (br_f h (cx_ag a b i e1 e2 rfl ha hb hi' ?_)), fun post H => br_f (cv_64 hi') (br_f h (cy_ag R a b i e1 e2 rfl ha hb hi' ?_))⟩
        · rw [z]
          exact br_f (by decide) (nm_r (nI_1 i) (hX post H))
        · rw [z]
          exact br_f (by decide) (nm_r (nI_1 i) (hY post H))
theorem i_vc_differing {k : Nat} {u : SX} {v : SY} (I : i_Rel k u v) (hk : k + 4 ≤ 2048) (v1 : Int32) (v2 : Int32) : wpX_differing (fun r => wpY_differing (fun r' => r' = r ∧ i_Rel (k + 4) u v) v v1 v2) u v1 v2 := by
  have J := i_up I
  obtain ⟨n, b, P, V, T, W, fp, sp, an, hd, rfl, rfl, ⟨hn, hb, R, hH, hP, hA⟩⟩ := I
  unfold wpX_differing wpY_differing
  rcases cv_ix v1 n (by omega) with h | ⟨a, ha, rfl⟩
  · exact cx_mb rfl h (br_t rfl (cy_mb rfl h (br_f (by decide) ⟨rfl, J⟩)))
  · rcases cv_ix v2 n (by omega) with h | ⟨c, hc, rfl⟩
    · exact cx_mo rfl hn.2 rfl ha (br_f (by decide) (cx_mb rfl h (br_t rfl (cy_mo rfl hn.2 rfl ha (br_t rfl (cy_mb rfl h (br_f (by decide) ⟨rfl, J⟩)))))))
    · exact cx_mo rfl hn.2 rfl ha (br_f (by decide) (cx_mo rfl hn.2 rfl hc (br_f (by decide) (cx_cd a c rfl rfl (by omega) (by omega) (cy_mo rfl hn.2 rfl ha (br_t rfl (cy_mo rfl hn.2 rfl hc (br_t rfl (cy_ap R a c rfl rfl (by omega) (by omega) ⟨rfl, J⟩)))))))))
theorem i_vc_nextDifference {k : Nat} {u : SX} {v : SY} (I : i_Rel k u v) (hk : k + 4 ≤ 2048) (v1 : Int32) (v2 : Int32) (v3 : Int32) : wpX_nextDifference (fun r => wpY_nextDifference (fun r' => r' = r ∧ i_Rel (k + 4) u v) v v1 v2 v3) u v1 v2 v3 := by
  have J := i_up I
  obtain ⟨n, b, P, V, T, W, fp, sp, an, hd, rfl, rfl, ⟨hn, hb, R, hH, hP, hA⟩⟩ := I
  unfold wpX_nextDifference wpY_nextDifference
  rcases cv_ix v1 n (by omega) with h | ⟨a, ha, rfl⟩
  · exact cx_mb rfl h (br_t rfl (cy_mb rfl h (br_f (by decide) ⟨rfl, J⟩)))
  · rcases cv_ix v2 n (by omega) with h | ⟨c, hc, rfl⟩
    · exact cx_mo rfl hn.2 rfl ha (br_f (by decide) (cx_mb rfl h (br_t rfl (cy_mo rfl hn.2 rfl ha (br_t rfl (cy_mb rfl h (br_f (by decide) ⟨rfl, J⟩)))))))
    · obtain ⟨r, hX, hY⟩ := cv_nd (cc := nI n) (cb := nI b) (ct := nI n) (nw := nI b) (fp := fp) (sp := sp) (an := an) (hd := hd) (fs := fp) (sc := sp) (hs := hd) R a c rfl rfl (by omega) (by omega) v3 64 0 rfl
      exact cx_mo rfl hn.2 rfl ha (br_f (by decide) (cx_mo rfl hn.2 rfl hc (br_f (by decide) (⟨65, hX _ (cy_mo rfl hn.2 rfl ha (br_t rfl (cy_mo rfl hn.2 rfl hc (br_t rfl (⟨65, hY _ ⟨rfl, J⟩⟩)))))⟩))))
theorem i_vc_base {k : Nat} {u : SX} {v : SY} (I : i_Rel k u v) (hk : k + 4 ≤ 2048) (v1 : Int32) (v2 : Int32) : wpX_base (fun r => wpY_base (fun r' => r' = r ∧ i_Rel (k + 4) u v) v v1 v2) u v1 v2 := by
  have J := i_up I
  obtain ⟨n, b, P, V, T, W, fp, sp, an, hd, rfl, rfl, ⟨hn, hb, R, hH, hP, hA⟩⟩ := I
  unfold wpX_base wpY_base
  rcases cv_ix v1 n (by omega) with h | ⟨a, ha, rfl⟩
  · exact cx_mb rfl h (br_t rfl (cy_mb rfl h (br_f (by decide) ⟨rfl, J⟩)))
  · rcases cv_ix v2 n (by omega) with h | ⟨c, hc, rfl⟩
    · exact cx_mo rfl hn.2 rfl ha (br_f (by decide) (cx_mb rfl h (br_t rfl (cy_mo rfl hn.2 rfl ha (br_t rfl (cy_mb rfl h (br_f (by decide) ⟨rfl, J⟩)))))))
    · exact cx_mo rfl hn.2 rfl ha (br_f (by decide) (cx_mo rfl hn.2 rfl hc (br_f (by decide) (cx_gc a c rfl rfl (by omega) (by omega) (cy_mo rfl hn.2 rfl ha (br_t rfl (cy_mo rfl hn.2 rfl hc (br_t rfl (cy_sh a c rfl rfl (by omega) (by omega) ⟨by rw [hA a ha, hA c hc], J⟩)))))))))
theorem i_vc_conflicts {k : Nat} {u : SX} {v : SY} (I : i_Rel k u v) (hk : k + 4 ≤ 2048) (v1 : Int32) (v2 : Int32) : wpX_conflicts (fun r => wpY_conflicts (fun r' => r' = r ∧ i_Rel (k + 4) u v) v v1 v2) u v1 v2 := by
  have J := i_up I
  obtain ⟨n, b, P, V, T, W, fp, sp, an, hd, rfl, rfl, ⟨hn, hb, R, hH, hP, hA⟩⟩ := I
  unfold wpX_conflicts wpY_conflicts
  rcases cv_ix v1 n (by omega) with h | ⟨a, ha, rfl⟩
  · exact cx_mb rfl h (br_t rfl (cy_mb rfl h (br_f (by decide) ⟨rfl, J⟩)))
  · rcases cv_ix v2 n (by omega) with h | ⟨c, hc, rfl⟩
    · exact cx_mo rfl hn.2 rfl ha (br_f (by decide) (cx_mb rfl h (br_t rfl (cy_mo rfl hn.2 rfl ha (br_t rfl (cy_mb rfl h (br_f (by decide) ⟨rfl, J⟩)))))))
    · exact cx_mo rfl hn.2 rfl ha (br_f (by decide) (cx_mo rfl hn.2 rfl hc (br_f (by decide) (cx_gc a c rfl rfl (by omega) (by omega) (cx_cc (cv_gc (an a &&& an c) 20) a c rfl rfl rfl (Nat.lt_trans (cv_gc_lt _) (by omega)) (by omega) (by omega) (cy_mo rfl hn.2 rfl ha (br_t rfl (cy_mo rfl hn.2 rfl hc (br_t rfl (cy_sh a c rfl rfl (by omega) (by omega) (by rw [← hA a ha, ← hA c hc]; exact cy_cc R (cv_gc (an a &&& an c) 20) a c rfl rfl rfl (Nat.lt_trans (cv_gc_lt _) (by omega)) (by omega) (by omega) ⟨rfl, J⟩)))))))))))
theorem cx_anl {post : Int32 → Prop} {x1 : Int32} {cc cb : Int32} {P V fp sp an hd : Nat → Int32} (c : Nat) (e : x1 = nI c) (hc : c < 20) (h : post (cv_an (an c) 20)) : ∀ d i, i + d = 20 → wX_ancestors_14 post x1 cc cb P V fp sp an hd (d + 1) (cv_an (an c) i) (nI i) := by
  subst e
  intro d
  induction d with
  | zero =>
    intro i hi
    obtain rfl : i = 20 := by omega
    exact br_t cv_e20 h
  | succ d ih =>
    intro i hi
    refine br_f (cv_20 (by omega)) ⟨vp_in_nI hc (by omega), ?_⟩
    rw [nI_clamp (n := c) (by omega)]
    exact nm_r (e' := cv_an (an c) (i + 1)) rfl (nm_r (nI_1 i) (ih (i + 1) (by omega)))
theorem cy_anl {post : Int32 → Prop} {ct nw : Int32} {T W fs sc hs : Nat → Int32} (m : Int32) (h : post (cv_an m 20)) : ∀ d i, i + d = 20 → wY_ancestors_21 post m ct nw T W fs sc hs (d + 1) (cv_an m i) (nI i) := by
  intro d
  induction d with
  | zero =>
    intro i hi
    obtain rfl : i = 20 := by omega
    exact br_t cv_e20 h
  | succ d ih =>
    intro i hi
    exact br_f (cv_20 (by omega)) (nm_r (e' := cv_an m (i + 1)) rfl (nm_r (nI_1 i) (ih (i + 1) (by omega))))
theorem cx_ans {post : Int32 → Prop} {x1 : Int32} {cc cb : Int32} {P V fp sp an hd : Nat → Int32} (c : Nat) (e : x1 = nI c) (hc : c < 20) (h : post (cv_an (an c) 20)) : ∃ n, wX_ancestors_14 post x1 cc cb P V fp sp an hd n 0 0 := ⟨21, cx_anl c e hc h 20 0 rfl⟩
theorem cy_ans {post : Int32 → Prop} {ct nw : Int32} {T W fs sc hs : Nat → Int32} (m : Int32) (h : post (cv_an m 20)) : ∃ n, wY_ancestors_21 post m ct nw T W fs sc hs n 0 0 := ⟨21, cy_anl m h 20 0 rfl⟩
theorem i_vc_ancestors {k : Nat} {u : SX} {v : SY} (I : i_Rel k u v) (hk : k + 4 ≤ 2048) (v1 : Int32) : wpX_ancestors (fun r => wpY_ancestors (fun r' => r' = r ∧ i_Rel (k + 4) u v) v v1) u v1 := by
  have J := i_up I
  obtain ⟨n, b, P, V, T, W, fp, sp, an, hd, rfl, rfl, ⟨hn, hb, R, hH, hP, hA⟩⟩ := I
  unfold wpX_ancestors wpY_ancestors
  rcases cv_ix v1 n (by omega) with h | ⟨c, hc, rfl⟩
  · exact cx_mb rfl h (br_t rfl (cy_mb rfl h (br_f (by decide) ⟨rfl, J⟩)))
  · refine cx_mo rfl hn.2 rfl hc (br_f (by decide) (cx_ans c rfl (by omega) ?_))
    refine cy_mo rfl hn.2 rfl hc (br_t rfl (cy_ln c rfl (by omega) ?_))
    rw [← hA c hc]
    exact cy_ans _ ⟨rfl, J⟩
