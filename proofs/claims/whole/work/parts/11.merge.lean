section
variable {cc cb ct nw : Int32} {P V fp sp an hd T W fs sc hs : Nat → Int32}
theorem cv_Lcl (R : cv_R P V T W) (b h : Nat) (eb : cb = nI b) (eb' : nw = nI b) (hb : b < 4) (eh : hd b = nI h) (eh' : hs b = nI h) (hh : h < 20) : ∃ t : Bool, (∀ post : Int32 → Prop, post (cv_i t) → wpX_isClean post (cc, cb, P, V, fp, sp, an, hd)) ∧ (∀ post : Int32 → Prop, post (cv_i t) → wpY_isClean post (ct, nw, T, W, fs, sc, hs)) :=
  ⟨_, fun _ H => cx_cl b h eb hb eh hh H, fun _ H => cy_cl R b h eb' hb eh' hh H⟩
theorem cv_Lgc (a c : Nat) (ha : a < 20) (hc : c < 20) (ea : an a = cv_line fs sc a) (ec : an c = cv_line fs sc c) : ∃ o, o < 20 ∧ (∀ post : Int32 → Prop, post (nI o) → wpX_greatestCommonAncestor post (cc, cb, P, V, fp, sp, an, hd) (nI a) (nI c)) ∧ (∀ post : Int32 → Prop, post (nI o) → wpY_shared post (ct, nw, T, W, fs, sc, hs) (nI a) (nI c)) :=
  ⟨cv_gc (an a &&& an c) 20, cv_gc_lt _, fun _ H => cx_gc a c rfl rfl ha hc H, fun _ H => cy_sh a c rfl rfl ha hc (by rw [← ea, ← ec]; exact H)⟩
theorem cv_Lcc (R : cv_R P V T W) (o a c : Nat) (ho : o < 20) (ha : a < 20) (hc : c < 20) : ∃ r : Int32, (∀ post : Int32 → Prop, post r → wpX_countConflicts post (cc, cb, P, V, fp, sp, an, hd) (nI o) (nI a) (nI c)) ∧ (∀ post : Int32 → Prop, post r → wpY_clashes post (ct, nw, T, W, fs, sc, hs) (nI o) (nI a) (nI c)) :=
  ⟨_, fun _ H => cx_cc o a c rfl rfl rfl (by omega) (by omega) (by omega) H, fun _ H => cy_cc R o a c rfl rfl rfl (by omega) (by omega) (by omega) H⟩
end
theorem cv_sy {x : Int32} {A B : Prop} (h : x < 0 ∨ nI 3 ≤ x) (a : A) : (x < 0 → A) ∧ (¬ x < 0 → ((x ≤ 2 → B) ∧ (¬ x ≤ 2 → A))) := br_c (fun _ => a) (fun z => br_f (fun y => absurd (Int32.le_trans (h.resolve_left z) y) (by decide)) a)
theorem cv_so {s : Nat} {A B : Prop} (h : s < 3) (b : B) : (nI s < 0 → A) ∧ (¬ nI s < 0 → ((nI s ≤ 2 → B) ∧ (¬ nI s ≤ 2 → A))) := br_f (nI_pos (by omega)) (br_t (nI_le (b := 2) (by omega) (by decide)) b)
theorem cv_rf {s r : Int32} {A B : Prop} (h : ¬ (s = 2 ∧ ¬ r ≤ 0)) (a : A) : (s = 2 → ((r ≤ 0 → A) ∧ (¬ r ≤ 0 → B))) ∧ (¬ s = 2 → A) := br_c (fun e => br_c (fun _ => a) (fun z => absurd ⟨e, z⟩ h)) (fun _ => a)
theorem cv_rt {s r : Int32} {A B : Prop} (h : s = 2 ∧ ¬ r ≤ 0) (b : B) : (s = 2 → ((r ≤ 0 → A) ∧ (¬ r ≤ 0 → B))) ∧ (¬ s = 2 → A) := br_t h.1 (br_f h.2 b)
theorem cv_nq {a b : Nat} (ha : a < 20) (hb : b < 20) (h : ¬ a = b) : ¬ nI a = nI b := fun z => h ((nI_eq (by omega) (by omega)).mp z)
/-- what merge and pick do at their ends, on both sides -/
theorem cv_bl {n b : Nat} {P V T W fp sp an hd : Nat → Int32} (I : cv_I n b P V T W fp sp an hd) (o a c : Nat) (ha : a < 20) (hc : c < 20) (s : Int32) :
    cv_I n b (cv_mx P (cx_g P V o a c s) 20 64) (cv_mx V (cx_g P V o a c s) 20 64) (cv_mx (cv_mx T (cy_g P V o a c s) 21 64) (fun k => 64 * 21 + k) 20 64) (cv_mx (cv_mx W (cy_g P V o a c s) 21 64) (fun k => 64 * 21 + k) 20 64) fp sp an hd :=
  cv_I_R I (cv_R_bl I.2.2.1 _ _ (fun k hk => Nat.lt_trans (cy_g_lt ha hc hk) (by omega)) (fun k _ => (cv_g_eq o a c s k).1) (fun k _ => (cv_g_eq o a c s k).2))
theorem i_vc_merge {k : Nat} {u : SX} {v : SY} (I : i_Rel k u v) (hk : k + 4 ≤ 2048) (v1 : Int32) (v2 : Int32) : wpX_merge (fun r u' => wpY_merge (fun r' v' => r' = r ∧ i_Rel (k + 4) u' v') v v1 v2) u v1 v2 := by
  obtain ⟨n, b, P, V, T, W, fp, sp, an, hd, rfl, rfl, I⟩ := I
  have ⟨hn, hb, R, hH, hP, hA⟩ := I
  obtain ⟨h, hh, eh⟩ := hH b hb
  have ib := vp_in_nI (n := b) (N := 4) hb (by omega)
  have eB : hd (nI b).toNatClampNeg = nI h := by rw [nI_clamp (n := b) (by omega), eh]
  unfold wpX_merge wpY_merge
  rcases cv_ix v1 4 (by omega) with hv | ⟨j, hj, rfl⟩
  · exact cx_bb hv (br_t rfl (cy_bb hv (br_f (by decide) ⟨rfl, cv_J I⟩)))
  rcases cv_ix v2 3 (by omega) with hv | ⟨s, hs, rfl⟩
  · exact cx_bo rfl hj (br_f (by decide) (cx_sb hv (br_t rfl (cy_bo rfl hj (br_t rfl (cv_sy hv ⟨rfl, cv_J I⟩))))))
  obtain ⟨g, hg, eg⟩ := hH j hj
  have ij := vp_in_nI (n := j) (N := 4) hj (by omega)
  have eJ : hd (nI j).toNatClampNeg = nI g := by rw [nI_clamp (n := j) (by omega), eg]
  obtain ⟨t, clX, clY⟩ := cv_Lcl (cc := nI n) (ct := nI n) (fp := fp) (sp := sp) (an := an) (fs := fp) (sc := sp) R b h rfl rfl hb eh eh (by omega)
  cases t
  · exact cx_bo rfl hj (br_f (by decide) (cx_so rfl hs (br_f (by decide) (clX _ (br_t rfl (cy_bo rfl hj (br_t rfl (cv_so hs (clY _ (br_t rfl ⟨rfl, cv_J I⟩))))))))))
  obtain ⟨o, ho, gX, gY⟩ := cv_Lgc (cc := nI n) (cb := nI b) (P := P) (V := V) (fp := fp) (sp := sp) (hd := hd) (ct := nI n) (nw := nI b) (T := T) (W := W) (hs := hd) h g (by omega) (by omega) (hA h hh) (hA g hg)
  by_cases e1 : o = g
  · subst e1
    refine cx_bo rfl hj (br_f (by decide) (cx_so rfl hs (br_f (by decide) (clX _ (br_f (by decide) ⟨ib, nm_r (e' := nI h) eB ⟨ij, nm_r (e' := nI o) eJ (gX _ (br_t rfl ?_))⟩⟩)))))
    exact cy_bo rfl hj (br_t rfl (cv_so hs (clY _ (br_f (by decide) (cy_mi b h rfl hb eh ⟨ij, nm_r (e' := nI o) eJ (gY _ (br_t rfl ⟨rfl, cv_J I⟩))⟩)))))
  have n1 := cv_nq ho (by omega) e1
  by_cases e2 : o = h
  · subst e2
    have eU : upd hd (nI b).toNatClampNeg (nI g) = upd hd b (nI g) := by rw [nI_clamp (n := b) (by omega)]
    refine cx_bo rfl hj (br_f (by decide) (cx_so rfl hs (br_f (by decide) (clX _ (br_f (by decide) ⟨ib, nm_r (e' := nI o) eB ⟨ij, nm_r (e' := nI g) eJ (gX _ (br_f n1 (br_t rfl ⟨ib, nm_r eU (cx_lw g rfl (by omega) (fun j hj => cv_R_b R hj) ?_)⟩)))⟩⟩)))))
    exact cy_bo rfl hj (br_t rfl (cv_so hs (clY _ (br_f (by decide) (cy_mi b o rfl hb eh ⟨ij, nm_r (e' := nI g) eJ (gY _ (br_f n1 (br_t rfl ⟨ib, nm_r eU (cy_cp g 20 rfl rfl (by omega) (by omega) (by omega) (fun k hk => cv_R_t R (by omega)) ⟨rfl, cv_J (cv_I_hd (cv_I_R I (cv_R_cp R _ 20 (fun k hk => by omega))) b hg)⟩)⟩)))⟩)))))
  have n2 := cv_nq ho (by omega) e2
  by_cases e3 : n = 20
  · subst e3
    refine cx_bo rfl hj (br_f (by decide) (cx_so rfl hs (br_f (by decide) (clX _ (br_f (by decide) ⟨ib, nm_r (e' := nI h) eB ⟨ij, nm_r (e' := nI g) eJ (gX _ (br_f n1 (br_f n2 (cx_fu rfl rfl (br_f (by decide) ?_)))))⟩⟩)))))
    exact cy_bo rfl hj (br_t rfl (cv_so hs (clY _ (br_f (by decide) (cy_mi b h rfl hb eh ⟨ij, nm_r (e' := nI g) eJ (gY _ (br_f n1 (br_f n2 (br_f (by decide) ⟨rfl, cv_J I⟩))))⟩)))))
  have hn' : n < 20 := by omega
  have le19 : nI n ≤ 19 := nI_le (b := 19) (by omega) (by decide)
  obtain ⟨r, cX, cY⟩ := cv_Lcc (cc := nI n) (cb := nI b) (fp := fp) (sp := sp) (an := an) (hd := hd) (ct := nI n) (nw := nI b) (fs := fp) (sc := sp) (hs := hd) R o h g ho (by omega) (by omega)
  by_cases e4 : nI s = 2 ∧ ¬ r ≤ 0
  · refine cx_bo rfl hj (br_f (by decide) (cx_so rfl hs (br_f (by decide) (clX _ (br_f (by decide) ⟨ib, nm_r (e' := nI h) eB ⟨ij, nm_r (e' := nI g) eJ (gX _ (br_f n1 (br_f n2 (cx_nf rfl hn' (br_t rfl (cX _ (cv_rt e4 ?_)))))))⟩⟩)))))
    exact cy_bo rfl hj (br_t rfl (cv_so hs (clY _ (br_f (by decide) (cy_mi b h rfl hb eh ⟨ij, nm_r (e' := nI g) eJ (gY _ (br_f n1 (br_f n2 (br_t le19 (cY _ (cv_rt e4 ⟨rfl, cv_J I⟩))))))⟩)))))
  have I' := cv_bl I o h g (by omega) (by omega) (nI s)
  refine cx_bo rfl hj (br_f (by decide) (cx_so rfl hs (br_f (by decide) (clX _ (br_f (by decide) ⟨ib, nm_r (e' := nI h) eB ⟨ij, nm_r (e' := nI g) eJ (gX _ (br_f n1 (br_f n2 (cx_nf rfl hn' (br_t rfl (cX _ (cv_rf e4 ?_)))))))⟩⟩)))))
  unfold wX_merge_131
  refine cx_mi o h g rfl rfl rfl ho (by omega) (by omega) (fun j hj => cv_R_b R hj) (cx_ac n b h rfl rfl hn' hb eh hh (fun j hj => cv_R_b I'.2.2.1 hj) (Or.inr ⟨g, hg, rfl⟩) _ rfl ?_)
  refine cy_bo rfl hj (br_t rfl (cv_so hs (clY _ (br_f (by decide) (cy_mi b h rfl hb eh ⟨ij, nm_r (e' := nI g) eJ (gY _ (br_f n1 (br_f n2 (br_t le19 (cY _ (cv_rf e4 ?_))))))⟩)))))
  unfold wY_merge_130
  exact cy_bl R o h g rfl rfl rfl ho (by omega) (by omega) (cy_mk n b rfl rfl hn' hb (fun k hk => cv_R_t I'.2.2.1 (by omega)) ⟨rfl, cv_J (cv_I_add I' hn' hh (Or.inr ⟨g, hg, rfl⟩))⟩)
theorem i_vc_pick {k : Nat} {u : SX} {v : SY} (I : i_Rel k u v) (hk : k + 4 ≤ 2048) (v1 : Int32) (v2 : Int32) : wpX_pick (fun r u' => wpY_pick (fun r' v' => r' = r ∧ i_Rel (k + 4) u' v') v v1 v2) u v1 v2 := by
  obtain ⟨n, b, P, V, T, W, fp, sp, an, hd, rfl, rfl, I⟩ := I
  have ⟨hn, hb, R, hH, hP, hA⟩ := I
  obtain ⟨h, hh, eh⟩ := hH b hb
  have ib := vp_in_nI (n := b) (N := 4) hb (by omega)
  have eB : hd (nI b).toNatClampNeg = nI h := by rw [nI_clamp (n := b) (by omega), eh]
  unfold wpX_pick wpY_pick
  rcases cv_ix v1 n (by omega) with hv | ⟨c, hc, rfl⟩
  · exact cx_mb rfl hv (br_t rfl (cy_mb rfl hv (br_f (by decide) ⟨rfl, cv_J I⟩)))
  rcases cv_ix v2 3 (by omega) with hv | ⟨s, hs, rfl⟩
  · exact cx_mo rfl hn.2 rfl hc (br_f (by decide) (cx_sb hv (br_t rfl (cy_mo rfl hn.2 rfl hc (br_t rfl (cv_sy hv ⟨rfl, cv_J I⟩))))))
  have ic := vp_in_nI (n := c) (N := 20) (by omega) (by omega)
  obtain ⟨t, clX, clY⟩ := cv_Lcl (cc := nI n) (ct := nI n) (fp := fp) (sp := sp) (an := an) (fs := fp) (sc := sp) R b h rfl rfl hb eh eh (by omega)
  cases t
  · exact cx_mo rfl hn.2 rfl hc (br_f (by decide) (cx_so rfl hs (br_f (by decide) (clX _ (br_t rfl (cy_mo rfl hn.2 rfl hc (br_t rfl (cv_so hs (clY _ (br_t rfl ⟨rfl, cv_J I⟩))))))))))
  by_cases e3 : n = 20
  · subst e3
    refine cx_mo rfl hn.2 rfl hc (br_f (by decide) (cx_so rfl hs (br_f (by decide) (clX _ (br_f (by decide) (cx_fu rfl rfl (br_f (by decide) ?_)))))))
    exact cy_mo rfl hn.2 rfl hc (br_t rfl (cv_so hs (clY _ (br_f (by decide) (br_f (by decide) ⟨rfl, cv_J I⟩)))))
  have hn' : n < 20 := by omega
  have le19 : nI n ≤ 19 := nI_le (b := 19) (by omega) (by decide)
  rcases (hP c hc).1 with eF | ⟨o, ho, eF⟩
  · have eO : fp (nI c).toNatClampNeg = -1 := by rw [nI_clamp (n := c) (by omega), eF]
    refine cx_mo rfl hn.2 rfl hc (br_f (by decide) (cx_so rfl hs (br_f (by decide) (clX _ (br_f (by decide) (cx_nf rfl hn' (br_t rfl ⟨ic, nm_r (e' := -1) eO (br_t rfl ?_)⟩)))))))
    exact cy_mo rfl hn.2 rfl hc (br_t rfl (cv_so hs (clY _ (br_f (by decide) (br_t le19 ⟨ic, nm_r (e' := -1) eO (br_f (by decide) ⟨rfl, cv_J I⟩)⟩)))))
  have eO : fp (nI c).toNatClampNeg = nI o := by rw [nI_clamp (n := c) (by omega), eF]
  have nP : 0 ≤ nI o := nI_pos' (by omega)
  have nO : ¬ nI o = -1 := fun z => absurd nP (by rw [z]; decide)
  obtain ⟨r, cX, cY⟩ := cv_Lcc (cc := nI n) (cb := nI b) (fp := fp) (sp := sp) (an := an) (hd := hd) (ct := nI n) (nw := nI b) (fs := fp) (sc := sp) (hs := hd) R o h c (by omega) (by omega) (by omega)
  by_cases e4 : nI s = 2 ∧ ¬ r ≤ 0
  · refine cx_mo rfl hn.2 rfl hc (br_f (by decide) (cx_so rfl hs (br_f (by decide) (clX _ (br_f (by decide) (cx_nf rfl hn' (br_t rfl ⟨ic, nm_r (e' := nI o) eO (br_f nO ⟨ib, nm_r (e' := nI h) eB (cX _ (cv_rt e4 ?_))⟩)⟩)))))))
    exact cy_mo rfl hn.2 rfl hc (br_t rfl (cv_so hs (clY _ (br_f (by decide) (br_t le19 ⟨ic, nm_r (e' := nI o) eO (br_t nP (cy_mi b h rfl hb eh (cY _ (cv_rt e4 ⟨rfl, cv_J I⟩))))⟩)))))
  have I' := cv_bl I o h c (by omega) (by omega) (nI s)
  refine cx_mo rfl hn.2 rfl hc (br_f (by decide) (cx_so rfl hs (br_f (by decide) (clX _ (br_f (by decide) (cx_nf rfl hn' (br_t rfl ⟨ic, nm_r (e' := nI o) eO (br_f nO ⟨ib, nm_r (e' := nI h) eB (cX _ (cv_rf e4 ?_))⟩)⟩)))))))
  unfold wX_pick_90
  refine cx_mi o h c rfl rfl rfl (by omega) (by omega) (by omega) (fun j hj => cv_R_b R hj) (cx_ac n b h rfl rfl hn' hb eh hh (fun j hj => cv_R_b I'.2.2.1 hj) (Or.inl rfl) _ rfl ?_)
  refine cy_mo rfl hn.2 rfl hc (br_t rfl (cv_so hs (clY _ (br_f (by decide) (br_t le19 ⟨ic, nm_r (e' := nI o) eO (br_t nP (cy_mi b h rfl hb eh (cY _ (cv_rf e4 ?_))))⟩)))))
  unfold wY_pick_87
  exact cy_bl R o h c rfl rfl rfl (by omega) (by omega) (by omega) (cy_mk n b rfl rfl hn' hb (fun k hk => cv_R_t I'.2.2.1 (by omega)) ⟨rfl, cv_J (cv_I_add I' hn' hh (Or.inl rfl))⟩)
