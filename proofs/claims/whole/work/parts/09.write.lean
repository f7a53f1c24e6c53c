section
variable {ct nw : Int32} {T W fs sc hs : Nat → Int32}
theorem cy_pt {post : Int32 → SY → Prop} {p0 p1 : Int32} (j : Nat) (e : p0 = nI j) (hj : j < 64) (h : post (cv_i (decide (T (64 * 20 + j) = 0))) (ct, nw, upd T (64 * 20 + j) 1, upd W (64 * 20 + j) p1, fs, sc, hs)) : wpY_put post (ct, nw, T, W, fs, sc, hs) p0 p1 := by
  subst e
  unfold wpY_put
  refine cy_ko rfl hj (br_t rfl ?_)
  rw [cv_cw j, nI_clamp (n := 64 * 20 + j) (by omega)]
  have i := vp_in_nI (n := 64 * 20 + j) (N := 1408) (by omega) (by omega)
  refine ⟨i, br_c (fun z => ?_) (fun z => ?_)⟩
  · unfold wY_put_28
    rw [cv_cw j, nI_clamp (n := 64 * 20 + j) (by omega), cv_n1]
    rw [decide_eq_true z] at h
    exact ⟨i, nm_e ⟨i, nm_e h⟩⟩
  · unfold wY_put_28
    rw [cv_cw j, nI_clamp (n := 64 * 20 + j) (by omega), cv_n1]
    rw [decide_eq_false z] at h
    exact ⟨i, nm_e ⟨i, nm_e h⟩⟩
theorem cy_mi {post : Int32 → Prop} (b h : Nat) (eb : nw = nI b) (hb : b < 4) (eh : hs b = nI h) (H : post (nI h)) : wpY_mine post (ct, nw, T, W, fs, sc, hs) := by
  subst eb
  unfold wpY_mine
  dsimp only
  rw [nI_clamp (n := b) (by omega), eh]
  exact ⟨vp_in_nI hb (by omega), H⟩
end
theorem cv_1m (t : Bool) : cv_i t = 1 - cv_i (!t) := by
  cases t <;> decide
theorem i_vc_put {k : Nat} {u : SX} {v : SY} (I : i_Rel k u v) (hk : k + 4 ≤ 2048) (v1 : Int32) (v2 : Int32) : wpX_put (fun r u' => wpY_put (fun r' v' => r' = r ∧ i_Rel (k + 4) u' v') v v1 v2) u v1 v2 := by
  obtain ⟨n, b, P, V, T, W, fp, sp, an, hd, rfl, rfl, I⟩ := I
  have R := I.2.2.1
  rcases cv_ix v1 64 (by omega) with h | ⟨j, hj, rfl⟩
  · unfold wpX_put wpY_put
    exact cx_kb h (br_t rfl (cy_kb h (br_f (by decide) ⟨rfl, cv_J I⟩)))
  · unfold wpX_put
    refine cx_ko rfl hj (br_f (by decide) (cx_pr 20 j rfl rfl (by omega) hj (cx_sw j rfl hj ?_)))
    refine cy_pt j rfl hj ⟨?_, cv_J (cv_I_R I (cv_R_put R _ _))⟩
    rw [(R (64 * 20 + j) (by omega)).1]
    exact cv_1m _
theorem i_vc_delete {k : Nat} {u : SX} {v : SY} (I : i_Rel k u v) (hk : k + 4 ≤ 2048) (v1 : Int32) : wpX_delete (fun r u' => wpY_delete (fun r' v' => r' = r ∧ i_Rel (k + 4) u' v') v v1) u v1 := by
  obtain ⟨n, b, P, V, T, W, fp, sp, an, hd, rfl, rfl, I⟩ := I
  have R := I.2.2.1
  rcases cv_ix v1 64 (by omega) with h | ⟨j, hj, rfl⟩
  · unfold wpX_delete wpY_delete
    exact cx_kb h (br_t rfl (cy_kb h (br_f (by decide) ⟨rfl, cv_J I⟩)))
  · unfold wpX_delete wpY_delete wpX_cellOf
    refine cx_ko rfl hj (br_f (by decide) (cx_pr 20 j rfl rfl (by omega) hj ?_))
    dsimp only
    have i := vp_in_nI (n := 64 * 20 + j) (N := 1344) (by omega) (by omega)
    have i' := vp_in_nI (n := 64 * 20 + j) (N := 1408) (by omega) (by omega)
    rw [show (20 : Int32) * 64 + nI j = nI (64 * 20 + j) from cv_cx 20 j, nI_clamp (n := 64 * 20 + j) (by omega), cv_n0]
    refine ⟨i, nm_e ⟨i, nm_e (cy_ko rfl hj (br_t rfl ?_))⟩⟩
    rw [cv_cw j, nI_clamp (n := 64 * 20 + j) (by omega)]
    have J := cv_J (k := k + 4) (cv_I_R I (cv_R_del R (64 * 20 + j)))
    refine ⟨i', br_c (fun z => ?_) (fun z => ?_)⟩
    · unfold wY_delete_28
      rw [cv_cw j, nI_clamp (n := 64 * 20 + j) (by omega), cv_n0]
      rw [(R (64 * 20 + j) (by omega)).1] at z
      rw [decide_eq_true z]
      exact ⟨i', nm_e ⟨rfl, J⟩⟩
    · unfold wY_delete_28
      rw [cv_cw j, nI_clamp (n := 64 * 20 + j) (by omega), cv_n0]
      rw [(R (64 * 20 + j) (by omega)).1] at z
      rw [decide_eq_false z]
      exact ⟨i', nm_e ⟨rfl, J⟩⟩
theorem i_vc_reset {k : Nat} {u : SX} {v : SY} (I : i_Rel k u v) (hk : k + 4 ≤ 2048) : wpX_reset (fun r u' => wpY_reset (fun r' v' => r' = r ∧ i_Rel (k + 4) u' v') v) u := by
  obtain ⟨n, b, P, V, T, W, fp, sp, an, hd, rfl, rfl, I⟩ := I
  have ⟨hn, hb, R, hH, hP, hA⟩ := I
  obtain ⟨h, hh, eh⟩ := hH b hb
  unfold wpX_reset wpY_reset
  dsimp only
  rw [nI_clamp (n := b) (by omega), eh]
  exact ⟨vp_in_nI hb (by omega), cx_lw h rfl (by omega) (fun j hj => cv_R_b R hj) (cy_mi b h rfl hb eh (cy_sw R h rfl (by omega) ⟨rfl, cv_J (cv_I_R I (cv_R_cp R _ 20 (fun k hk => by omega)))⟩))⟩
theorem i_vc_checkout {k : Nat} {u : SX} {v : SY} (I : i_Rel k u v) (hk : k + 4 ≤ 2048) (v1 : Int32) : wpX_checkout (fun r u' => wpY_checkout (fun r' v' => r' = r ∧ i_Rel (k + 4) u' v') v v1) u v1 := by
  obtain ⟨n, b, P, V, T, W, fp, sp, an, hd, rfl, rfl, I⟩ := I
  have ⟨hn, hb, R, hH, hP, hA⟩ := I
  unfold wpX_checkout wpY_checkout
  rcases cv_ix v1 n (by omega) with h | ⟨c, hc, rfl⟩
  · exact cx_mb rfl h (br_t rfl (cy_mb rfl h (br_f (by decide) ⟨rfl, cv_J I⟩)))
  · refine cx_mo rfl hn.2 rfl hc (br_f (by decide) (cx_lw c rfl (by omega) (fun j hj => cv_R_b R hj) ?_))
    exact cy_mo rfl hn.2 rfl hc (br_t rfl (cy_sw R c rfl (by omega) ⟨rfl, cv_J (cv_I_R I (cv_R_cp R _ 20 (fun k hk => by omega)))⟩))
theorem i_vc_change {k : Nat} {u : SX} {v : SY} (I : i_Rel k u v) (hk : k + 4 ≤ 2048) (v1 : Int32) : wpX_change (fun r u' => wpY_change (fun r' v' => r' = r ∧ i_Rel (k + 4) u' v') v v1) u v1 := by
  obtain ⟨n, b, P, V, T, W, fp, sp, an, hd, rfl, rfl, I⟩ := I
  have ⟨hn, hb, R, hH, hP, hA⟩ := I
  obtain ⟨h, hh, eh⟩ := hH b hb
  unfold wpX_change wpY_change
  rcases cv_ix v1 4 (by omega) with hv | ⟨j, hj, rfl⟩
  · exact cx_bb hv (br_t rfl (cy_bb hv (br_f (by decide) ⟨rfl, cv_J I⟩)))
  · have i := vp_in_nI (n := j) (N := 4) hj (by omega)
    obtain ⟨g, hg, eg⟩ := hH j hj
    refine cx_bo rfl hj (br_f (by decide) (cx_cl b h rfl hb eh (by omega) (cv_br (fun z => ?_) (fun z => ?_))))
    · refine cy_bo rfl hj (br_t rfl (cy_cl R b h rfl hb eh (by omega) ?_))
      rw [z]
      exact br_t rfl ⟨rfl, cv_J I⟩
    · have R' := cv_R_cp R (fun k => 64 * g + k) 20 (fun k hk => by omega)
      rw [nI_clamp (n := j) (by omega), eg]
      refine ⟨i, cx_lw g rfl (by omega) (fun j hj => cv_R_b R hj) ⟨i, ?_⟩⟩
      refine cy_bo rfl hj (br_t rfl (cy_cl R b h rfl hb eh (by omega) ?_))
      rw [z]
      exact br_f (by decide) ⟨i, cy_sw R g eg (by omega) ⟨i, rfl, cv_J ⟨hn, hj, R', hH, hP, hA⟩⟩⟩
theorem cv_I_hd {n b : Nat} {P V T W fp sp an hd : Nat → Int32} (I : cv_I n b P V T W fp sp an hd) (j : Nat) {x : Nat} (hx : x < n) : cv_I n b P V T W fp sp an (upd hd j (nI x)) := by
  obtain ⟨hn, hb, R, hH, hP, hA⟩ := I
  refine ⟨hn, hb, R, fun i hi => ?_, hP, hA⟩
  by_cases e : i = j
  · subst e
    exact ⟨x, hx, pk_us⟩
  · rw [pk_un e]
    exact hH i hi
theorem i_vc_branch {k : Nat} {u : SX} {v : SY} (I : i_Rel k u v) (hk : k + 4 ≤ 2048) (v1 : Int32) : wpX_branch (fun r u' => wpY_branch (fun r' v' => r' = r ∧ i_Rel (k + 4) u' v') v v1) u v1 := by
  obtain ⟨n, b, P, V, T, W, fp, sp, an, hd, rfl, rfl, I⟩ := I
  have ⟨hn, hb, R, hH, hP, hA⟩ := I
  obtain ⟨h, hh, eh⟩ := hH b hb
  unfold wpX_branch wpY_branch
  rcases cv_ix v1 4 (by omega) with hv | ⟨j, hj, rfl⟩
  · exact cx_bb hv (br_t rfl (cy_bb hv (br_f (by decide) ⟨rfl, cv_J I⟩)))
  · have i := vp_in_nI (n := j) (N := 4) hj (by omega)
    have ib := vp_in_nI (n := b) (N := 4) hb (by omega)
    by_cases e : nI j = nI b
    · exact cx_bo rfl hj (br_f (by decide) (br_t e (cy_bo rfl hj (br_t rfl (br_t e ⟨rfl, cv_J I⟩)))))
    · refine cx_bo rfl hj (br_f (by decide) (br_f e ?_))
      rw [nI_clamp (n := j) (by omega), nI_clamp (n := b) (by omega), eh]
      refine ⟨i, nm_e ⟨ib, i, nm_e (cy_bo rfl hj (br_t rfl (br_f e ⟨i, nm_e ⟨ib, i, nm_r (e' := upd hd j (nI h)) (by rw [nI_clamp (n := b) (by omega), eh]) ⟨rfl, cv_J (cv_I_hd I j hh)⟩⟩⟩)))⟩⟩
theorem i_vc_commit {k : Nat} {u : SX} {v : SY} (I : i_Rel k u v) (hk : k + 4 ≤ 2048) : wpX_commit (fun r u' => wpY_commit (fun r' v' => r' = r ∧ i_Rel (k + 4) u' v') v) u := by
  obtain ⟨n, b, P, V, T, W, fp, sp, an, hd, rfl, rfl, I⟩ := I
  have ⟨hn, hb, R, hH, hP, hA⟩ := I
  obtain ⟨h, hh, eh⟩ := hH b hb
  unfold wpX_commit wpY_commit
  by_cases e : n = 20
  · subst e
    refine cx_fu rfl rfl (br_f (by decide) (cy_mi b h rfl hb eh ?_))
    unfold wpY_make
    exact br_f (by decide) ⟨rfl, cv_J I⟩
  · have hn' : n < 20 := by omega
    refine cx_nf rfl hn' (br_t rfl (cx_ac n b h rfl rfl hn' hb eh hh (fun j hj => cv_R_b R hj) (Or.inl rfl) _ rfl ?_))
    exact cy_mi b h rfl hb eh (cy_mk n b rfl rfl hn' hb (fun k hk => cv_R_t R (by omega)) ⟨rfl, cv_J (cv_I_add I hn' hh (Or.inl rfl))⟩)
