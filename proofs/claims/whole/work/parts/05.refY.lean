theorem cv_cz (i : Nat) : (1344 : Int32) + nI i = nI (64 * 21 + i) := nI_add 1344 i
theorem cv_cw (i : Nat) : (1280 : Int32) + nI i = nI (64 * 20 + i) := nI_add 1280 i
section
variable {ct nw : Int32} {T W fs sc hs : Nat → Int32}
theorem cy_cpl {post : SY → Prop} {x1 x2 : Int32} (f t : Nat) (e1 : x1 = nI f) (e2 : x2 = nI t) (hf : f < 22) (ht : t < 22) (hft : f ≠ t) (hb : ∀ k, k < 64 → T (64 * f + k) = 0 ∨ T (64 * f + k) = 1) (h : post (ct, nw, cv_mx T (fun k => 64 * f + k) t 64, cv_mx W (fun k => 64 * f + k) t 64, fs, sc, hs)) : ∀ d i, i + d = 64 → wY_copy_2 post x1 x2 ct nw (d + 1) (nI i) (cv_mx T (fun k => 64 * f + k) t i) (cv_mx W (fun k => 64 * f + k) t i) fs sc hs := by
  subst e1 e2
  intro d
  induction d with
  | zero =>
    intro i hi
    obtain rfl : i = 64 := by omega
    exact br_t cv_e64 h
  | succ d ih =>
    intro i hi
    have hi' : i < 64 := by omega
    have ho : 64 * f + i < 64 * t ∨ 64 * t + 64 ≤ 64 * f + i := by omega
    have i1 := vp_in_nI (n := 64 * f + i) (N := 1408) (by omega) (by omega)
    have i2 := vp_in_nI (n := 64 * t + i) (N := 1408) (by omega) (by omega)
    refine br_f (cv_64 hi') ?_
    rw [cv_cy f i, cv_cy t i, nI_clamp (n := 64 * f + i) (by omega), nI_clamp (n := 64 * t + i) (by omega), cv_nb (by rw [cv_mx_o (by omega)]; exact hb i hi')]
    rw [cv_mx_c (g := fun k => 64 * f + k) hi' rfl ho, cv_mx_c (g := fun k => 64 * f + k) hi' rfl ho]
    exact ⟨i1, i2, nm_e ⟨i1, i2, nm_e (nm_r (nI_1 i) (ih (i + 1) (by omega)))⟩⟩
theorem cy_cp {post : SY → Prop} {p0 p1 : Int32} (f t : Nat) (e1 : p0 = nI f) (e2 : p1 = nI t) (hf : f < 22) (ht : t < 22) (hft : f ≠ t) (hb : ∀ k, k < 64 → T (64 * f + k) = 0 ∨ T (64 * f + k) = 1) (h : post (ct, nw, cv_mx T (fun k => 64 * f + k) t 64, cv_mx W (fun k => 64 * f + k) t 64, fs, sc, hs)) : wpY_copy post (ct, nw, T, W, fs, sc, hs) p0 p1 := by
  have z := cy_cpl f t e1 e2 hf ht hft hb h 64 0 rfl
  rw [cv_mx_0, cv_mx_0] at z
  exact ⟨65, z⟩
theorem cy_lnl {post : Int32 → Prop} : ∀ d (s x3 : Int32), x3 = nI d + (-1) → d ≤ 20 → post (cv_ln fs sc d s) → wY_line_6 post ct nw T W fs sc hs (d + 1) s x3 := by
  intro d
  induction d with
  | zero =>
    intro s x3 e _ h
    subst e
    exact br_t (by decide) h
  | succ d ih =>
    intro s x3 e hd h
    rw [pk_m1] at e
    subst e
    have i1 := vp_in_nI (n := d) (N := 20) (by omega) (by omega)
    have h' : post (cv_ln fs sc d (cv_st fs sc d s)) := h
    unfold cv_st at h'
    have fin : ∀ s', post (cv_ln fs sc d (cv_o2 (sc d) s')) → wY_line_39 post (wY_line_6 post ct nw T W fs sc hs (d + 1)) s' (nI d) ct nw T W fs sc hs := by
      intro s' h
      unfold wY_line_39
      rw [nI_clamp (n := d) (by omega)]
      unfold cv_o2 at h
      refine ⟨i1, br_c (fun z => ?_) (fun z => ⟨i1, ?_⟩)⟩
      · rw [if_pos z] at h
        exact nm_e (ih s' _ rfl (by omega) h)
      · rw [if_neg z] at h
        exact nm_e (nm_e (ih _ _ rfl (by omega) h))
    refine br_f (nI_pos (by omega)) (br_c (fun z => ?_) (fun z => ?_))
    · rw [if_pos z] at h'
      rw [nI_clamp (n := d) (by omega)]
      refine ⟨i1, br_c (fun y => ?_) (fun y => ⟨i1, nm_e ?_⟩)⟩
      · refine fin s ?_
        rw [cv_o2.eq_1 (fs d) s, if_pos y] at h'
        exact h'
      · refine fin _ ?_
        rw [cv_o2.eq_1 (fs d) s, if_neg y] at h'
        exact h'
    · rw [if_neg z] at h'
      exact nm_e (ih s _ rfl (by omega) h')
theorem cy_ln {post : Int32 → Prop} {p0 : Int32} (c : Nat) (e : p0 = nI c) (hc : c < 20) (h : post (cv_line fs sc c)) : wpY_line post (ct, nw, T, W, fs, sc, hs) p0 := by
  subst e
  unfold wpY_line
  exact nm_e ⟨c + 2, cy_lnl (c + 1) _ _ (pk_m1 c).symm (by omega) h⟩
theorem cy_shl {post : Int32 → Prop} (m : Int32) (h : post (nI (cv_gc m 20))) : ∀ d i, i + d = 20 → wY_shared_25 post m ct nw T W fs sc hs (d + 1) (nI (cv_gc m i)) (nI i) := by
  intro d
  induction d with
  | zero =>
    intro i hi
    obtain rfl : i = 20 := by omega
    exact br_t cv_e20 h
  | succ d ih =>
    intro i hi
    have hi' : i < 20 := by omega
    have z := ih (i + 1) (by omega)
    refine br_f (cv_20 hi') (br_c (fun e => ?_) (fun e => ?_))
    · rw [cv_gc, if_pos e] at z
      exact nm_r (nI_1 i) z
    · rw [cv_gc, if_neg e] at z
      exact nm_r (nI_1 i) z
theorem cy_sh {post : Int32 → Prop} {p0 p1 : Int32} (a b : Nat) (e1 : p0 = nI a) (e2 : p1 = nI b) (ha : a < 20) (hb : b < 20) (h : post (nI (cv_gc (cv_line fs sc a &&& cv_line fs sc b) 20))) : wpY_shared post (ct, nw, T, W, fs, sc, hs) p0 p1 := by
  unfold wpY_shared
  exact cy_ln a e1 ha (cy_ln b e2 hb (nm_e ⟨21, cy_shl _ h 20 0 rfl⟩))
theorem cy_mk {post : Int32 → SY → Prop} {p0 p1 : Int32} (n b : Nat) (en : ct = nI n) (eb : nw = nI b) (hn : n < 20) (hb : b < 4) (hB : ∀ k, k < 64 → T (64 * 20 + k) = 0 ∨ T (64 * 20 + k) = 1)
    (H : post (nI n) (nI (n + 1), nw, cv_mx T (fun k => 64 * 20 + k) n 64, cv_mx W (fun k => 64 * 20 + k) n 64, upd fs n p0, upd sc n p1, upd hs b (nI n))) : wpY_make post (ct, nw, T, W, fs, sc, hs) p0 p1 := by
  subst en eb
  unfold wpY_make
  dsimp only
  have i20 := vp_in_nI hn (N := 20) (by omega)
  refine br_t (nI_le (b := 19) (by omega) (by omega)) (cy_cp 20 n rfl rfl (by omega) (by omega) (by omega) hB ?_)
  dsimp only
  rw [nI_clamp (n := n) (by omega), nI_clamp (n := b) (by omega)]
  exact ⟨i20, nm_e ⟨i20, nm_e (nm_r (nI_1 n) ⟨vp_in_nI hb (by omega), nm_e H⟩)⟩⟩
end
section
variable {ct nw : Int32} {P V T W fs sc hs : Nat → Int32}
theorem cy_ag (R : cv_R P V T W) {post : Int32 → Prop} {p0 p1 p2 : Int32} (a b k : Nat) (e0 : p0 = nI a) (e1 : p1 = nI b) (e2 : p2 = nI k) (ha : a < 21) (hb : b < 21) (hk : k < 64) (h : post (cv_i (cv_ag P V a b k))) : wpY_agree post (ct, nw, T, W, fs, sc, hs) p0 p1 p2 := by
  subst e0 e1 e2
  unfold wpY_agree
  rw [cv_cy a k, cv_cy b k, nI_clamp (n := 64 * a + k) (by omega), nI_clamp (n := 64 * b + k) (by omega)]
  have i := vp_in_nI (n := 64 * a + k) (N := 1408) (by omega) (by omega)
  have j := vp_in_nI (n := 64 * b + k) (N := 1408) (by omega) (by omega)
  obtain ⟨t1, -, v1, w1⟩ := R (64 * a + k) (by omega)
  obtain ⟨t2, -, v2, w2⟩ := R (64 * b + k) (by omega)
  unfold cv_ag at h
  refine ⟨i, j, br_c (fun e => ⟨i, br_c (fun z => ?_) (fun z => ⟨i, j, br_c (fun e' => ?_) (fun e' => ?_)⟩)⟩) (fun e => ?_)⟩
  · rw [t1, t2] at e
    rw [t1] at z
    rw [decide_eq_true e, decide_eq_true ((v1 z).trans (v2 (e.symm.trans z)).symm)] at h; exact h
  · rw [t1, t2] at e
    rw [t1] at z
    rw [w1 z, w2 (fun y => z (e.trans y))] at e'
    rw [decide_eq_true e, decide_eq_true e'] at h; exact h
  · rw [t1, t2] at e
    rw [t1] at z
    rw [w1 z, w2 (fun y => z (e.trans y))] at e'
    rw [decide_eq_true e, decide_eq_false e'] at h; exact h
  · rw [t1, t2] at e
    rw [decide_eq_false e] at h; exact h
theorem cy_cf (R : cv_R P V T W) {post : Int32 → Prop} {p0 p1 p2 p3 : Int32} (o a b k : Nat) (e0 : p0 = nI o) (e1 : p1 = nI a) (e2 : p2 = nI b) (e3 : p3 = nI k) (ho : o < 21) (ha : a < 21) (hb : b < 21) (hk : k < 64) (h : post (cv_i (cv_cf P V o a b k))) : wpY_clash post (ct, nw, T, W, fs, sc, hs) p0 p1 p2 p3 := by
  unfold wpY_clash
  unfold cv_cf at h
  refine cy_ag R a b k e1 e2 e3 ha hb hk (cv_br (fun x => cy_ag R a o k e1 e0 e3 ha ho hk (cv_br (fun y => cy_ag R b o k e2 e0 e3 hb ho hk (cv_br (fun z => ?_) (fun z => ?_))) (fun y => ?_))) (fun x => ?_))
  · rw [x, y, z] at h; exact h
  · rw [x, y, z] at h; exact h
  · rw [x, y] at h; exact h
  · rw [x] at h; exact h
theorem cy_apl (R : cv_R P V T W) {post : Int32 → Prop} {x1 x2 : Int32} (a b : Nat) (e1 : x1 = nI a) (e2 : x2 = nI b) (ha : a < 21) (hb : b < 21) (h : post (cv_ct (fun k => !cv_ag P V a b k) 64)) : ∀ d i, i + d = 64 → wY_apart_5 post x1 x2 ct nw T W fs sc hs (d + 1) (cv_ct (fun k => !cv_ag P V a b k) i) (nI i) := by
  intro d
  induction d with
  | zero =>
    intro i hi
    obtain rfl : i = 64 := by omega
    exact br_t cv_e64 h
  | succ d ih =>
    intro i hi
    have hi' : i < 64 := by omega
    refine br_f (cv_64 hi') (cy_ag R a b i e1 e2 rfl ha hb hi' (cv_br (fun z => ?_) (fun z => ?_)))
    · exact nm_r (cv_ct_t (q := fun k => !cv_ag P V a b k) (by rw [z]; rfl)) (nm_r (nI_1 i) (ih (i + 1) (by omega)))
    · rw [cv_ct_f (q := fun k => !cv_ag P V a b k) (by rw [z]; rfl)]
      exact nm_r (nI_1 i) (ih (i + 1) (by omega))
theorem cy_ap (R : cv_R P V T W) {post : Int32 → Prop} {p0 p1 : Int32} (a b : Nat) (e1 : p0 = nI a) (e2 : p1 = nI b) (ha : a < 21) (hb : b < 21) (h : post (cv_ct (fun k => !cv_ag P V a b k) 64)) : wpY_apart post (ct, nw, T, W, fs, sc, hs) p0 p1 := ⟨65, cy_apl R a b e1 e2 ha hb h 64 0 rfl⟩
theorem cy_ccl (R : cv_R P V T W) {post : Int32 → Prop} {x1 x2 x3 : Int32} (o a b : Nat) (e1 : x1 = nI o) (e2 : x2 = nI a) (e3 : x3 = nI b) (ho : o < 21) (ha : a < 21) (hb : b < 21) (h : post (cv_ct (cv_cf P V o a b) 64)) : ∀ d i, i + d = 64 → wY_clashes_6 post x1 x2 x3 ct nw T W fs sc hs (d + 1) (cv_ct (cv_cf P V o a b) i) (nI i) := by
  intro d
  induction d with
  | zero =>
    intro i hi
    obtain rfl : i = 64 := by omega
    exact br_t cv_e64 h
  | succ d ih =>
    intro i hi
    have hi' : i < 64 := by omega
    refine br_f (cv_64 hi') (cy_cf R o a b i e1 e2 e3 rfl ho ha hb hi' (cv_br (fun z => ?_) (fun z => ?_)))
    · rw [cv_ct_f z]
      exact nm_r (nI_1 i) (ih (i + 1) (by omega))
    · exact nm_r (cv_ct_t z) (nm_r (nI_1 i) (ih (i + 1) (by omega)))
theorem cy_cc (R : cv_R P V T W) {post : Int32 → Prop} {p0 p1 p2 : Int32} (o a b : Nat) (e1 : p0 = nI o) (e2 : p1 = nI a) (e3 : p2 = nI b) (ho : o < 21) (ha : a < 21) (hb : b < 21) (h : post (cv_ct (cv_cf P V o a b) 64)) : wpY_clashes post (ct, nw, T, W, fs, sc, hs) p0 p1 p2 := ⟨65, cy_ccl R o a b e1 e2 e3 ho ha hb h 64 0 rfl⟩
theorem cy_cl (R : cv_R P V T W) {post : Int32 → Prop} (b h : Nat) (eb : nw = nI b) (hb : b < 4) (eh : hs b = nI h) (hh : h < 20) (H : post (cv_i (decide (cv_ct (fun k => !cv_ag P V 20 h k) 64 = 0)))) : wpY_isClean post (ct, nw, T, W, fs, sc, hs) := by
  subst eb
  unfold wpY_isClean wpY_mine
  dsimp only
  rw [nI_clamp (n := b) (by omega), eh]
  refine ⟨vp_in_nI hb (by omega), cy_ap R 20 h rfl rfl (by omega) (by omega) (br_c (fun z => ?_) (fun z => ?_))⟩
  · rw [decide_eq_true z] at H; exact H
  · rw [decide_eq_false z] at H; exact H
theorem cy_sw (R : cv_R P V T W) {post : Int32 → SY → Prop} {p0 : Int32} (c : Nat) (e : p0 = nI c) (hc : c < 20) (h : post (cv_ct (fun k => !cv_ag P V 20 c k) 64) (ct, nw, cv_mx T (fun k => 64 * c + k) 20 64, cv_mx W (fun k => 64 * c + k) 20 64, fs, sc, hs)) : wpY_show post (ct, nw, T, W, fs, sc, hs) p0 := by
  unfold wpY_show
  exact cy_ap R 20 c rfl e (by omega) (by omega) (cy_cp c 20 e rfl (by omega) (by omega) (by omega) (fun k hk => cv_R_t R (by omega)) h)
/-- the cell that the reference's merge takes a key from -/
def cy_g (P V : Nat → Int32) (o a b : Nat) (s : Int32) (k : Nat) : Nat := match (!cv_ag P V a b k && cv_ag P V a o k) || (cv_cf P V o a b k && decide (s = 1)) with
  | true => 64 * b + k
  | false => 64 * a + k
theorem cy_g_lt {P V : Nat → Int32} {o a b : Nat} {s : Int32} {k : Nat} (ha : a < 20) (hb : b < 20) (hk : k < 64) : cy_g P V o a b s k < 1280 := by
  unfold cy_g
  generalize ((!cv_ag P V a b k && cv_ag P V a o k) || (cv_cf P V o a b k && decide (s = 1))) = t
  cases t
  · show 64 * a + k < 1280
    omega
  · show 64 * b + k < 1280
    omega
theorem cv_g_eq {P V : Nat → Int32} (o a b : Nat) (s : Int32) (k : Nat) : P (cx_g P V o a b s k) = P (cy_g P V o a b s k) ∧ V (cx_g P V o a b s k) = V (cy_g P V o a b s k) := by
  unfold cx_g cy_g cv_cf
  cases h1 : cv_ag P V a b k
  · cases h2 : cv_ag P V a o k
    · cases h3 : cv_ag P V b o k
      · cases h4 : decide (s = 1) <;> exact ⟨rfl, rfl⟩
      · exact ⟨rfl, rfl⟩
    · exact ⟨rfl, rfl⟩
  · have h1' := h1
    unfold cv_ag at h1'
    rw [Bool.and_eq_true, decide_eq_true_iff, decide_eq_true_iff] at h1'
    cases h2 : cv_ag P V a o k
    · exact ⟨rfl, rfl⟩
    · exact ⟨h1'.1.symm, h1'.2.symm⟩
theorem cv_R_21 (R : cv_R P V T W) (g : Nat → Nat) (i : Nat) : cv_R P V (cv_mx T g 21 i) (cv_mx W g 21 i) := by
  intro j hj
  rw [cv_mx_o (by omega), cv_mx_o (by omega)]
  exact R j hj
theorem cy_bll (R : cv_R P V T W) {post : SY → Prop} {x1 x2 x3 x4 : Int32} (o a b : Nat) (e1 : x1 = nI o) (e2 : x2 = nI a) (e3 : x3 = nI b) (ho : o < 20) (ha : a < 20) (hb : b < 20) (h : post (ct, nw, cv_mx (cv_mx T (cy_g P V o a b x4) 21 64) (fun k => 64 * 21 + k) 20 64, cv_mx (cv_mx W (cy_g P V o a b x4) 21 64) (fun k => 64 * 21 + k) 20 64, fs, sc, hs)) : ∀ d i, i + d = 64 → wY_blend_3 post x1 x2 x3 x4 ct nw (d + 1) (nI i) (cv_mx T (cy_g P V o a b x4) 21 i) (cv_mx W (cy_g P V o a b x4) 21 i) fs sc hs := by
  intro d
  induction d with
  | zero =>
    intro i hi
    obtain rfl : i = 64 := by omega
    refine br_t cv_e64 (cy_cp 21 20 rfl rfl (by omega) (by omega) (by omega) (fun k hk => ?_) h)
    rw [cv_mx_i hk]
    have := cy_g_lt (P := P) (V := V) (o := o) (s := x4) ha hb hk
    exact cv_R_t R (by omega)
  | succ d ih =>
    intro i hi
    have hi' : i < 64 := by omega
    have R' := cv_R_21 R (cy_g P V o a b x4) i
    have fin : ∀ z0 c, c < 20 → z0 = nI c → cy_g P V o a b x4 i = 64 * c + i → wY_blend_67 post (wY_blend_3 post x1 x2 x3 x4 ct nw (d + 1)) x1 x2 x3 x4 (nI i) z0 ct nw (cv_mx T (cy_g P V o a b x4) 21 i) (cv_mx W (cy_g P V o a b x4) 21 i) fs sc hs := by
      intro z0 c hc ez eg
      subst ez
      unfold wY_blend_67
      have i1 := vp_in_nI (n := 64 * c + i) (N := 1408) (by omega) (by omega)
      have i2 := vp_in_nI (n := 64 * 21 + i) (N := 1408) (by omega) (by omega)
      rw [cv_cy c i, cv_cz i, nI_clamp (n := 64 * c + i) (by omega), nI_clamp (n := 64 * 21 + i) (by omega), cv_nb (by rw [cv_mx_o (by omega)]; exact cv_R_t R (by omega))]
      rw [cv_mx_c hi' eg (by omega), cv_mx_c hi' eg (by omega)]
      exact ⟨i1, i2, nm_e ⟨i1, i2, nm_e (nm_r (nI_1 i) (ih (i + 1) (by omega)))⟩⟩
    have f50 : cy_g P V o a b x4 i = 64 * b + i → wY_blend_50 post (wY_blend_3 post x1 x2 x3 x4 ct nw (d + 1)) x1 x2 x3 x4 (nI i) ct nw (cv_mx T (cy_g P V o a b x4) 21 i) (cv_mx W (cy_g P V o a b x4) 21 i) fs sc hs := by
      intro e
      unfold wY_blend_50 wY_blend_55
      exact br_f (by decide) (fin _ b hb e3 e)
    have f54 : cy_g P V o a b x4 i = 64 * a + i → wY_blend_54 post (wY_blend_3 post x1 x2 x3 x4 ct nw (d + 1)) x1 x2 x3 x4 (nI i) ct nw (cv_mx T (cy_g P V o a b x4) 21 i) (cv_mx W (cy_g P V o a b x4) 21 i) fs sc hs := by
      intro e
      unfold wY_blend_54 wY_blend_55
      exact br_t rfl (fin _ a ha e2 e)
    have f32 : (!cv_ag P V a b i && cv_ag P V a o i) = false → wY_blend_32 post (wY_blend_3 post x1 x2 x3 x4 ct nw (d + 1)) x1 x2 x3 x4 (nI i) ct nw (cv_mx T (cy_g P V o a b x4) 21 i) (cv_mx W (cy_g P V o a b x4) 21 i) fs sc hs := by
      intro e
      unfold wY_blend_32
      refine cy_cf R' o a b i e1 e2 e3 rfl (by omega) (by omega) (by omega) hi' (cv_br (fun z => f54 ?_) (fun z => br_c (fun s1 => f50 ?_) (fun s1 => f54 ?_)))
      · unfold cy_g; rw [e, z]; rfl
      · unfold cy_g; rw [e, z, decide_eq_true s1]; rfl
      · unfold cy_g; rw [e, z, decide_eq_false s1]; rfl
    refine br_f (cv_64 hi') (cy_ag R' a b i e2 e3 rfl (by omega) (by omega) hi' (cv_br (fun z => cy_ag R' a o i e2 e1 rfl (by omega) (by omega) hi' (cv_br (fun y => f32 ?_) (fun y => f50 ?_))) (fun z => f32 ?_)))
    · rw [z, y]; rfl
    · unfold cy_g; rw [z, y]; rfl
    · rw [z]; rfl
theorem cy_bl (R : cv_R P V T W) {post : SY → Prop} {p0 p1 p2 p3 : Int32} (o a b : Nat) (e1 : p0 = nI o) (e2 : p1 = nI a) (e3 : p2 = nI b) (ho : o < 20) (ha : a < 20) (hb : b < 20) (h : post (ct, nw, cv_mx (cv_mx T (cy_g P V o a b p3) 21 64) (fun k => 64 * 21 + k) 20 64, cv_mx (cv_mx W (cy_g P V o a b p3) 21 64) (fun k => 64 * 21 + k) 20 64, fs, sc, hs)) : wpY_blend post (ct, nw, T, W, fs, sc, hs) p0 p1 p2 p3 := by
  have z := cy_bll R o a b e1 e2 e3 ho ha hb h 64 0 rfl
  rw [cv_mx_0, cv_mx_0] at z
  exact ⟨65, z⟩
end
