theorem cv_mx_c {A : Nat → Int32} {g : Nat → Nat} {t i c : Nat} (hi : i < 64) (hc : g i = c) (hg : c < 64 * t ∨ 64 * t + 64 ≤ c) : upd (cv_mx A g t i) (64 * t + i) (cv_mx A g t i c) = cv_mx A g t (i + 1) := by
  subst hc
  exact cv_mx_s hi hg
theorem cv_64 {i : Nat} (h : i < 64) : ¬ (64 : Int32) ≤ nI i := nI_ge (b := 64) h (by decide)
theorem cv_20 {i : Nat} (h : i < 20) : ¬ (20 : Int32) ≤ nI i := nI_ge (b := 20) h (by decide)
theorem cv_e64 : (64 : Int32) ≤ nI 64 := by decide
theorem cv_e20 : (20 : Int32) ≤ nI 20 := by decide
section
variable {cc cb : Int32} {P V fp sp an hd : Nat → Int32}
theorem cx_pr {post : Int32 → Prop} {p0 p1 : Int32} (a k : Nat) (e0 : p0 = nI a) (e1 : p1 = nI k) (ha : a < 21) (hk : k < 64) (h : post (cv_i (!decide (P (64 * a + k) = 0)))) : wpX_presence post (cc, cb, P, V, fp, sp, an, hd) p0 p1 := by
  subst e0 e1
  unfold wpX_presence wpX_cellOf
  dsimp only
  rw [cv_cx, nI_clamp (by omega)]
  refine ⟨vp_in_nI (by omega) (by omega), br_c (fun z => ?_) (fun z => ?_)⟩
  · rw [decide_eq_true z] at h; exact h
  · rw [decide_eq_false z] at h; exact h
theorem cx_sw {post : SX → Prop} {p0 p1 : Int32} (k : Nat) (e0 : p0 = nI k) (hk : k < 64) (h : post (cc, cb, upd P (64 * 20 + k) 1, upd V (64 * 20 + k) p1, fp, sp, an, hd)) : wpX_setWorking post (cc, cb, P, V, fp, sp, an, hd) p0 p1 := by
  subst e0
  unfold wpX_setWorking wpX_cellOf
  dsimp only
  rw [show (20 : Int32) * 64 + nI k = nI (64 * 20 + k) from cv_cx 20 k, nI_clamp (by omega), cv_n1]
  have i := vp_in_nI (n := 64 * 20 + k) (N := 1344) (by omega) (by omega)
  exact ⟨i, nm_e ⟨i, nm_e h⟩⟩
theorem cx_ck {post : SX → Prop} {p0 p1 p2 : Int32} (f t k : Nat) (e0 : p0 = nI f) (e1 : p1 = nI t) (e2 : p2 = nI k) (hf : f < 21) (ht : t < 21) (hk : k < 64) (hb : P (64 * f + k) = 0 ∨ P (64 * f + k) = 1) (h : post (cc, cb, upd P (64 * t + k) (P (64 * f + k)), upd V (64 * t + k) (V (64 * f + k)), fp, sp, an, hd)) : wpX_copyKey post (cc, cb, P, V, fp, sp, an, hd) p0 p1 p2 := by
  subst e0 e1 e2
  unfold wpX_copyKey wpX_cellOf
  dsimp only
  rw [cv_cx f k, cv_cx t k, nI_clamp (n := 64 * f + k) (by omega), nI_clamp (n := 64 * t + k) (by omega), cv_nb hb]
  have i := vp_in_nI (n := 64 * f + k) (N := 1344) (by omega) (by omega)
  have j := vp_in_nI (n := 64 * t + k) (N := 1344) (by omega) (by omega)
  exact ⟨i, j, nm_e ⟨i, j, nm_e h⟩⟩
theorem cx_cml {post : SX → Prop} {x1 x2 : Int32} (f t : Nat) (e1 : x1 = nI f) (e2 : x2 = nI t) (hf : f < 21) (ht : t < 21) (hft : f ≠ t) (hb : ∀ j, j < 1344 → P j = 0 ∨ P j = 1) (h : post (cc, cb, cv_mx P (fun k => 64 * f + k) t 64, cv_mx V (fun k => 64 * f + k) t 64, fp, sp, an, hd)) : ∀ d i, i + d = 64 → wX_copyMap_2 post x1 x2 (d + 1) (nI i) cc cb (cv_mx P (fun k => 64 * f + k) t i) (cv_mx V (fun k => 64 * f + k) t i) fp sp an hd := by
  intro d
  induction d with
  | zero =>
    intro i hi
    obtain rfl : i = 64 := by omega
    exact br_t cv_e64 h
  | succ d ih =>
    intro i hi
    have hi' : i < 64 := by omega
    have ho : 64 * f + i < 64 * t ∨ 64 * t + 64 ≤ 64 * f + i := by omega
    refine br_f (cv_64 hi') (cx_ck f t i e1 e2 rfl hf ht hi' (by rw [cv_mx_o (by omega)]; exact hb _ (by omega)) ?_)
    rw [cv_mx_c (g := fun k => 64 * f + k) hi' rfl ho, cv_mx_c (g := fun k => 64 * f + k) hi' rfl ho]
    exact nm_r (nI_1 i) (ih (i + 1) (by omega))
theorem cx_cm {post : SX → Prop} {p0 p1 : Int32} (f t : Nat) (e1 : p0 = nI f) (e2 : p1 = nI t) (hf : f < 21) (ht : t < 21) (hft : f ≠ t) (hb : ∀ j, j < 1344 → P j = 0 ∨ P j = 1) (h : post (cc, cb, cv_mx P (fun k => 64 * f + k) t 64, cv_mx V (fun k => 64 * f + k) t 64, fp, sp, an, hd)) : wpX_copyMap post (cc, cb, P, V, fp, sp, an, hd) p0 p1 := by
  have z := cx_cml f t e1 e2 hf ht hft hb h 64 0 rfl
  rw [cv_mx_0, cv_mx_0] at z
  exact ⟨65, z⟩
theorem cx_ag {post : Int32 → Prop} {p0 p1 p2 : Int32} (a b k : Nat) (e0 : p0 = nI a) (e1 : p1 = nI b) (e2 : p2 = nI k) (ha : a < 21) (hb : b < 21) (hk : k < 64) (h : post (cv_i (cv_ag P V a b k))) : wpX_agree post (cc, cb, P, V, fp, sp, an, hd) p0 p1 p2 := by
  subst e0 e1 e2
  unfold wpX_agree wpX_cellOf
  dsimp only
  rw [cv_cx a k, cv_cx b k, nI_clamp (n := 64 * a + k) (by omega), nI_clamp (n := 64 * b + k) (by omega)]
  have i := vp_in_nI (n := 64 * a + k) (N := 1344) (by omega) (by omega)
  have j := vp_in_nI (n := 64 * b + k) (N := 1344) (by omega) (by omega)
  unfold cv_ag at h
  refine ⟨i, j, br_c (fun e => ⟨i, j, br_c (fun e' => ?_) (fun e' => ?_)⟩) (fun e => ?_)⟩
  · rw [decide_eq_true e, decide_eq_true e'] at h; exact h
  · rw [decide_eq_true e, decide_eq_false e'] at h; exact h
  · rw [decide_eq_false e] at h; exact h
theorem cx_cf {post : Int32 → Prop} {p0 p1 p2 p3 : Int32} (o a b k : Nat) (e0 : p0 = nI o) (e1 : p1 = nI a) (e2 : p2 = nI b) (e3 : p3 = nI k) (ho : o < 21) (ha : a < 21) (hb : b < 21) (hk : k < 64) (h : post (cv_i (cv_cf P V o a b k))) : wpX_isConflict post (cc, cb, P, V, fp, sp, an, hd) p0 p1 p2 p3 := by
  unfold wpX_isConflict
  unfold cv_cf at h
  refine cx_ag a b k e1 e2 e3 ha hb hk (cv_br (fun x => cx_ag a o k e1 e0 e3 ha ho hk (cv_br (fun y => cx_ag b o k e2 e0 e3 hb ho hk (cv_br (fun z => ?_) (fun z => ?_))) (fun y => ?_))) (fun x => ?_))
  · rw [x, y, z] at h; exact h
  · rw [x, y, z] at h; exact h
  · rw [x, y] at h; exact h
  · rw [x] at h; exact h
theorem cx_cdl {post : Int32 → Prop} {x1 x2 : Int32} (a b : Nat) (e1 : x1 = nI a) (e2 : x2 = nI b) (ha : a < 21) (hb : b < 21) (h : post (cv_ct (fun k => !cv_ag P V a b k) 64)) : ∀ d i, i + d = 64 → wX_countDifferences_5 post x1 x2 cc cb P V fp sp an hd (d + 1) (cv_ct (fun k => !cv_ag P V a b k) i) (nI i) := by
  intro d
  induction d with
  | zero =>
    intro i hi
    obtain rfl : i = 64 := by omega
    exact br_t cv_e64 h
  | succ d ih =>
    intro i hi
    have hi' : i < 64 := by omega
    refine br_f (cv_64 hi') (cx_ag a b i e1 e2 rfl ha hb hi' (cv_br (fun z => ?_) (fun z => ?_)))
    · exact nm_r (cv_ct_t (q := fun k => !cv_ag P V a b k) (by rw [z]; rfl)) (nm_r (nI_1 i) (ih (i + 1) (by omega)))
    · rw [cv_ct_f (q := fun k => !cv_ag P V a b k) (by rw [z]; rfl)]
      exact nm_r (nI_1 i) (ih (i + 1) (by omega))
theorem cx_cd {post : Int32 → Prop} {p0 p1 : Int32} (a b : Nat) (e1 : p0 = nI a) (e2 : p1 = nI b) (ha : a < 21) (hb : b < 21) (h : post (cv_ct (fun k => !cv_ag P V a b k) 64)) : wpX_countDifferences post (cc, cb, P, V, fp, sp, an, hd) p0 p1 := ⟨65, cx_cdl a b e1 e2 ha hb h 64 0 rfl⟩
theorem cx_ccl {post : Int32 → Prop} {x1 x2 x3 : Int32} (o a b : Nat) (e1 : x1 = nI o) (e2 : x2 = nI a) (e3 : x3 = nI b) (ho : o < 21) (ha : a < 21) (hb : b < 21) (h : post (cv_ct (cv_cf P V o a b) 64)) : ∀ d i, i + d = 64 → wX_countConflicts_6 post x1 x2 x3 cc cb P V fp sp an hd (d + 1) (cv_ct (cv_cf P V o a b) i) (nI i) := by
  intro d
  induction d with
  | zero =>
    intro i hi
    obtain rfl : i = 64 := by omega
    exact br_t cv_e64 h
  | succ d ih =>
    intro i hi
    have hi' : i < 64 := by omega
    refine br_f (cv_64 hi') (cx_cf o a b i e1 e2 e3 rfl ho ha hb hi' (cv_br (fun z => ?_) (fun z => ?_)))
    · rw [cv_ct_f z]
      exact nm_r (nI_1 i) (ih (i + 1) (by omega))
    · exact nm_r (cv_ct_t z) (nm_r (nI_1 i) (ih (i + 1) (by omega)))
theorem cx_cc {post : Int32 → Prop} {p0 p1 p2 : Int32} (o a b : Nat) (e1 : p0 = nI o) (e2 : p1 = nI a) (e3 : p2 = nI b) (ho : o < 21) (ha : a < 21) (hb : b < 21) (h : post (cv_ct (cv_cf P V o a b) 64)) : wpX_countConflicts post (cc, cb, P, V, fp, sp, an, hd) p0 p1 p2 := ⟨65, cx_ccl o a b e1 e2 e3 ho ha hb h 64 0 rfl⟩
theorem cx_gcl {post : Int32 → Prop} (m : Int32) (h : post (nI (cv_gc m 20))) : ∀ d i, i + d = 20 → wX_greatestCommonAncestor_20 post m cc cb P V fp sp an hd (d + 1) (nI (cv_gc m i)) (nI i) := by
  intro d
  induction d with
  | zero =>
    intro i hi
    obtain rfl : i = 20 := by omega
    exact br_t cv_e20 h
  | succ d ih =>
    intro i hi
    have hi' : i < 20 := by omega
    have z := ih (i + 1) (by omega)
    refine br_f (cv_20 hi') (br_c (fun e => ?_) (fun e => ?_))
    · rw [cv_gc, if_pos e] at z
      exact nm_r (nI_1 i) z
    · rw [cv_gc, if_neg e] at z
      exact nm_r (nI_1 i) z
theorem cx_gc {post : Int32 → Prop} {p0 p1 : Int32} (a b : Nat) (e1 : p0 = nI a) (e2 : p1 = nI b) (ha : a < 20) (hb : b < 20) (h : post (nI (cv_gc (an a &&& an b) 20))) : wpX_greatestCommonAncestor post (cc, cb, P, V, fp, sp, an, hd) p0 p1 := by
  subst e1 e2
  unfold wpX_greatestCommonAncestor
  rw [nI_clamp (n := a) (by omega), nI_clamp (n := b) (by omega)]
  exact ⟨vp_in_nI ha (by omega), vp_in_nI hb (by omega), nm_e ⟨21, cx_gcl _ h 20 0 rfl⟩⟩
/-- the cell that the merge takes a key from -/
def cx_g (P V : Nat → Int32) (o a b : Nat) (s : Int32) (k : Nat) : Nat := match (match cv_cf P V o a b k with | true => decide (s = 1) | false => cv_ag P V a o k) with
  | true => 64 * b + k
  | false => 64 * a + k
theorem cx_g_lt {P V : Nat → Int32} {o a b : Nat} {s : Int32} {k : Nat} (ha : a < 20) (hb : b < 20) (hk : k < 64) : cx_g P V o a b s k < 1280 := by
  unfold cx_g
  generalize (match cv_cf P V o a b k with | true => decide (s = 1) | false => cv_ag P V a o k) = t
  cases t
  · show 64 * a + k < 1280
    omega
  · show 64 * b + k < 1280
    omega
theorem cv_ag_cg {P V P' V' : Nat → Int32} {a b k : Nat} (hp : ∀ j, j < 1280 → P' j = P j) (hv : ∀ j, j < 1280 → V' j = V j) (ha : a < 20) (hb : b < 20) (hk : k < 64) : cv_ag P' V' a b k = cv_ag P V a b k := by
  unfold cv_ag
  rw [hp _ (by omega), hp _ (by omega), hv _ (by omega), hv _ (by omega)]
theorem cv_cf_cg {P V P' V' : Nat → Int32} {o a b k : Nat} (hp : ∀ j, j < 1280 → P' j = P j) (hv : ∀ j, j < 1280 → V' j = V j) (ho : o < 20) (ha : a < 20) (hb : b < 20) (hk : k < 64) : cv_cf P' V' o a b k = cv_cf P V o a b k := by
  unfold cv_cf
  rw [cv_ag_cg hp hv ha hb hk, cv_ag_cg hp hv ha ho hk, cv_ag_cg hp hv hb ho hk]
theorem cx_mil {post : SX → Prop} {x1 x2 x3 x4 : Int32} (o a b : Nat) (e1 : x1 = nI o) (e2 : x2 = nI a) (e3 : x3 = nI b) (ho : o < 20) (ha : a < 20) (hb : b < 20) (hB : ∀ j, j < 1344 → P j = 0 ∨ P j = 1) (h : post (cc, cb, cv_mx P (cx_g P V o a b x4) 20 64, cv_mx V (cx_g P V o a b x4) 20 64, fp, sp, an, hd)) : ∀ d i, i + d = 64 → wX_mergeIntoWorking_3 post x1 x2 x3 x4 (d + 1) (nI i) cc cb (cv_mx P (cx_g P V o a b x4) 20 i) (cv_mx V (cx_g P V o a b x4) 20 i) fp sp an hd := by
  intro d
  induction d with
  | zero =>
    intro i hi
    obtain rfl : i = 64 := by omega
    exact br_t cv_e64 h
  | succ d ih =>
    intro i hi
    have hi' : i < 64 := by omega
    have hp : ∀ j, j < 1280 → cv_mx P (cx_g P V o a b x4) 20 i j = P j := fun j hj => cv_mx_o (by omega)
    have hv : ∀ j, j < 1280 → cv_mx V (cx_g P V o a b x4) 20 i j = V j := fun j hj => cv_mx_o (by omega)
    have fin : ∀ z0 c, c < 20 → z0 = nI c → cx_g P V o a b x4 i = 64 * c + i → wX_mergeIntoWorking_56 post (wX_mergeIntoWorking_3 post x1 x2 x3 x4 (d + 1)) x1 x2 x3 x4 (nI i) z0 cc cb (cv_mx P (cx_g P V o a b x4) 20 i) (cv_mx V (cx_g P V o a b x4) 20 i) fp sp an hd := by
      intro z0 c hc ez eg
      unfold wX_mergeIntoWorking_56
      refine cx_ck c 20 i ez rfl rfl (by omega) (by omega) hi' (by rw [hp _ (by omega)]; exact hB _ (by omega)) ?_
      rw [cv_mx_c hi' eg (by omega), cv_mx_c hi' eg (by omega)]
      exact nm_r (nI_1 i) (ih (i + 1) (by omega))
    refine br_f (cv_64 hi') (cx_ag a o i e2 e1 rfl (by omega) (by omega) hi' (cx_cf o a b i e1 e2 e3 rfl (by omega) (by omega) (by omega) hi' ?_))
    rw [cv_ag_cg hp hv ha ho hi', cv_cf_cg hp hv ho ha hb hi']
    refine cv_br (fun z => ?_) (fun z => br_c (fun s1 => ?_) (fun s1 => ?_))
    · unfold wX_mergeIntoWorking_45
      refine cv_br (fun y => ?_) (fun y => ?_)
      · exact fin _ a ha e2 (by unfold cx_g; rw [z, y])
      · exact fin _ b hb e3 (by unfold cx_g; rw [z, y])
    · unfold wX_mergeIntoWorking_43 wX_mergeIntoWorking_45
      exact br_f (by decide) (fin _ b hb e3 (by unfold cx_g; rw [z, decide_eq_true s1]))
    · unfold wX_mergeIntoWorking_43 wX_mergeIntoWorking_45
      exact br_t rfl (fin _ a ha e2 (by unfold cx_g; rw [z, decide_eq_false s1]))
theorem cx_mi {post : SX → Prop} {p0 p1 p2 p3 : Int32} (o a b : Nat) (e1 : p0 = nI o) (e2 : p1 = nI a) (e3 : p2 = nI b) (ho : o < 20) (ha : a < 20) (hb : b < 20) (hB : ∀ j, j < 1344 → P j = 0 ∨ P j = 1) (h : post (cc, cb, cv_mx P (cx_g P V o a b p3) 20 64, cv_mx V (cx_g P V o a b p3) 20 64, fp, sp, an, hd)) : wpX_mergeIntoWorking post (cc, cb, P, V, fp, sp, an, hd) p0 p1 p2 p3 := by
  have z := cx_mil o a b e1 e2 e3 ho ha hb hB h 64 0 rfl
  rw [cv_mx_0, cv_mx_0] at z
  exact ⟨65, z⟩
theorem cx_lw {post : Int32 → SX → Prop} {p0 : Int32} (c : Nat) (e : p0 = nI c) (hc : c < 20) (hB : ∀ j, j < 1344 → P j = 0 ∨ P j = 1) (h : post (cv_ct (fun k => !cv_ag P V 20 c k) 64) (cc, cb, cv_mx P (fun k => 64 * c + k) 20 64, cv_mx V (fun k => 64 * c + k) 20 64, fp, sp, an, hd)) : wpX_loadWorking post (cc, cb, P, V, fp, sp, an, hd) p0 := by
  unfold wpX_loadWorking
  exact cx_cd 20 c rfl e (by omega) (by omega) (cx_cm c 20 e rfl (by omega) (by omega) (by omega) hB h)
theorem cx_cl {post : Int32 → Prop} (b h : Nat) (eb : cb = nI b) (hb : b < 4) (eh : hd b = nI h) (hh : h < 20) (H : post (cv_i (decide (cv_ct (fun k => !cv_ag P V 20 h k) 64 = 0)))) : wpX_isClean post (cc, cb, P, V, fp, sp, an, hd) := by
  subst eb
  unfold wpX_isClean
  dsimp only
  rw [nI_clamp (n := b) (by omega), eh]
  refine ⟨vp_in_nI hb (by omega), cx_cd 20 h rfl rfl (by omega) (by omega) (br_c (fun z => ?_) (fun z => ?_))⟩
  · rw [decide_eq_true z] at H; exact H
  · rw [decide_eq_false z] at H; exact H
theorem cx_ac {post : Int32 → SX → Prop} {p0 : Int32} (n b h : Nat) (en : cc = nI n) (eb : cb = nI b) (hn : n < 20) (hb : b < 4) (eh : hd b = nI h) (hh : h < n) (hB : ∀ j, j < 1344 → P j = 0 ∨ P j = 1) (hp : p0 = -1 ∨ ∃ q, q < n ∧ p0 = nI q) (A : Int32) (hA : A = (cv_bp n ||| an h) ||| (if p0 < 0 then 0 else an p0.toNatClampNeg))
    (H : post (nI n) (nI (n + 1), cb, cv_mx P (fun k => 64 * 20 + k) n 64, cv_mx V (fun k => 64 * 20 + k) n 64, upd fp n (nI h), upd sp n p0, upd an n A, upd hd b (nI n))) : wpX_addCommit post (cc, cb, P, V, fp, sp, an, hd) p0 := by
  subst en eb
  unfold wpX_addCommit
  dsimp only
  rw [nI_clamp (n := b) (by omega), eh]
  have i20 := vp_in_nI hn (N := 20) (by omega)
  refine ⟨vp_in_nI hb (by omega), nm_e (cx_cm 20 n rfl rfl (by omega) (by omega) (by omega) hB ?_)⟩
  dsimp only
  rw [nI_clamp (n := n) (by omega), nI_clamp (n := h) (by omega)]
  refine ⟨i20, nm_e ⟨i20, nm_e ⟨vp_in_nI (by omega) (by omega), i20, nm_e (br_c (fun z => ?_) (fun z => ?_))⟩⟩⟩
  · subst z
    rw [if_pos (by decide), cv_or0] at hA
    subst hA
    unfold wX_addCommit_72
    rw [nI_clamp (n := b) (by omega)]
    exact ⟨vp_in_nI hb (by omega), nm_e (nm_r (nI_1 n) H)⟩
  · rcases hp with hp | ⟨q, hq, rfl⟩
    · exact absurd hp z
    · rw [if_neg (nI_pos (by omega)), nI_clamp (n := q) (by omega)] at hA
      rw [nI_clamp (n := q) (by omega)]
      refine ⟨i20, vp_in_nI (by omega) (by omega), i20, nm_r (e' := upd an n A) ?_ ?_⟩
      · rw [pk_us, pk_un (by omega), hA]
        funext j
        by_cases hj : j = n
        · subst hj
          rw [pk_us, pk_us]
          rfl
        · rw [pk_un hj, pk_un hj, pk_un hj]
      · unfold wX_addCommit_72
        rw [nI_clamp (n := b) (by omega)]
        exact ⟨vp_in_nI hb (by omega), nm_e (nm_r (nI_1 n) H)⟩
end
