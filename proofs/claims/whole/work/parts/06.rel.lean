def cv_par (f : Nat → Int32) (c : Nat) : Prop := f c = -1 ∨ ∃ p, p < c ∧ f c = nI p
def cv_I (n b : Nat) (P V T W fp sp an hd : Nat → Int32) : Prop :=
  (1 ≤ n ∧ n ≤ 20) ∧ b < 4 ∧ cv_R P V T W ∧ (∀ j, j < 4 → ∃ h, h < n ∧ hd j = nI h) ∧ (∀ c, c < n → cv_par fp c ∧ cv_par sp c) ∧ (∀ c, c < n → an c = cv_line fp sp c)
/-- counts, branches, parents and heads are the same on both sides; the cells are related by cv_R; the component's ancestry is the reference's line -/
def i_Rel (k : Nat) (u : SX) (v : SY) : Prop := ∃ (n b : Nat) (P V T W fp sp an hd : Nat → Int32), u = (nI n, nI b, P, V, fp, sp, an, hd) ∧ v = (nI n, nI b, T, W, fp, sp, hd) ∧ cv_I n b P V T W fp sp an hd
theorem i_up {k : Nat} {u : SX} {v : SY} (h : i_Rel k u v) : i_Rel (k + 4) u v := h
theorem cv_J {k n b : Nat} {P V T W fp sp an hd : Nat → Int32} (I : cv_I n b P V T W fp sp an hd) : i_Rel k (nI n, nI b, P, V, fp, sp, an, hd) (nI n, nI b, T, W, fp, sp, hd) := ⟨n, b, P, V, T, W, fp, sp, an, hd, rfl, rfl, I⟩
theorem cv_I_R {n b : Nat} {P V T W P' V' T' W' fp sp an hd : Nat → Int32} (I : cv_I n b P V T W fp sp an hd) (R : cv_R P' V' T' W') : cv_I n b P' V' T' W' fp sp an hd := ⟨I.1, I.2.1, R, I.2.2.2⟩
theorem cv_I_add {n b : Nat} {P V T W fp sp an hd : Nat → Int32} (I : cv_I n b P V T W fp sp an hd) (hn : n < 20) {h : Nat} (hh : h < n) {p0 : Int32} (hp : p0 = -1 ∨ ∃ q, q < n ∧ p0 = nI q) :
    cv_I (n + 1) b (cv_mx P (fun k => 64 * 20 + k) n 64) (cv_mx V (fun k => 64 * 20 + k) n 64) (cv_mx T (fun k => 64 * 20 + k) n 64) (cv_mx W (fun k => 64 * 20 + k) n 64) (upd fp n (nI h)) (upd sp n p0) (upd an n ((cv_bp n ||| an h) ||| (if p0 < 0 then 0 else an p0.toNatClampNeg))) (upd hd b (nI n)) := by
  obtain ⟨hn1, hb, R, hH, hP, hA⟩ := I
  have cg : ∀ c, c < n → cv_line (upd fp n (nI h)) (upd sp n p0) c = cv_line fp sp c := fun c hc => cv_line_cg c (fun d hd => ⟨pk_un (by omega), pk_un (by omega)⟩)
  refine ⟨by omega, hb, cv_R_cp R _ n (fun k hk => by omega), fun j hj => ?_, fun c hc => ?_, fun c hc => ?_⟩
  · by_cases e : j = b
    · subst e
      exact ⟨n, by omega, pk_us⟩
    · obtain ⟨x, hx, ex⟩ := hH j hj
      exact ⟨x, by omega, by rw [pk_un e]; exact ex⟩
  · by_cases e : c = n
    · subst e
      unfold cv_par
      rw [pk_us, pk_us]
      exact ⟨Or.inr ⟨h, hh, rfl⟩, hp⟩
    · unfold cv_par
      rw [pk_un e, pk_un e]
      exact hP c (by omega)
  · by_cases e : c = n
    · subst e
      rw [pk_us, cv_line_new _ _ (by omega) hh pk_us, cg h hh, hA h hh, pk_us]
      rcases hp with rfl | ⟨q, hq, rfl⟩
      · rw [if_pos (by decide), cv_ln_m1 _ _ (by omega) (by decide)]
      · rw [if_neg (nI_pos (by omega)), nI_clamp (n := q) (by omega), cv_pmN (by omega), cv_ln_sk _ _ c (by omega) hq, cg q hq, hA q hq]
    · rw [pk_un e, cg c (by omega)]
      exact hA c (by omega)
theorem i_vc0 : wpX_init (fun u => wpY_init (fun v => i_Rel 0 u v)) := by
  refine nm_e (nm_e (nm_e (nm_e (nm_e ?_))))
  refine cv_J (n := 1) (b := 0) ⟨by omega, by omega, fun j _ => ⟨rfl, Or.inl rfl, fun _ => rfl, fun _ => rfl⟩, fun j _ => ⟨0, by omega, rfl⟩, fun c hc => ?_, fun c hc => ?_⟩
  · obtain rfl : c = 0 := by omega
    exact ⟨Or.inl rfl, Or.inl rfl⟩
  · obtain rfl : c = 0 := by omega
    rw [cv_line_0 _ _ (by rw [pk_us]; decide) (by rw [pk_us]; decide), pk_us]
theorem cv_ix (x : Int32) (n : Nat) (hn : n < 2 ^ 31) : (x < 0 ∨ nI n ≤ x) ∨ ∃ j : Nat, j < n ∧ x = nI j := by
  rcases pk_ix x hn with h | h | h
  · exact Or.inl (Or.inl h)
  · exact Or.inl (Or.inr h)
  · exact Or.inr h
section
variable {cc cb : Int32} {P V fp sp an hd : Nat → Int32} {post : Int32 → Prop} {x : Int32}
theorem cx_kb (h : x < 0 ∨ nI 64 ≤ x) (H : post 0) : wpX_isKey post (cc, cb, P, V, fp, sp, an, hd) x := br_c (fun _ => H) (fun a => br_t (h.resolve_left a) H)
theorem cx_ko {j : Nat} (e : x = nI j) (hj : j < 64) (H : post 1) : wpX_isKey post (cc, cb, P, V, fp, sp, an, hd) x := by
  subst e
  exact br_f (nI_pos (by omega)) (br_f (cv_64 hj) H)
theorem cx_bb (h : x < 0 ∨ nI 4 ≤ x) (H : post 0) : wpX_isBranch post (cc, cb, P, V, fp, sp, an, hd) x := br_c (fun _ => H) (fun a => br_t (h.resolve_left a) H)
theorem cx_bo {j : Nat} (e : x = nI j) (hj : j < 4) (H : post 1) : wpX_isBranch post (cc, cb, P, V, fp, sp, an, hd) x := by
  subst e
  exact br_f (nI_pos (by omega)) (br_f (nI_ge (b := 4) hj (by decide)) H)
theorem cx_mb {n : Nat} (en : cc = nI n) (h : x < 0 ∨ nI n ≤ x) (H : post 0) : wpX_isCommit post (cc, cb, P, V, fp, sp, an, hd) x := by
  subst en
  exact br_c (fun _ => H) (fun a => br_t (h.resolve_left a) H)
theorem cx_mo {n j : Nat} (en : cc = nI n) (hn : n ≤ 20) (e : x = nI j) (hj : j < n) (H : post 1) : wpX_isCommit post (cc, cb, P, V, fp, sp, an, hd) x := by
  subst e en
  exact br_f (nI_pos (by omega)) (br_f (nI_ge hj (by omega)) H)
theorem cx_sb (h : x < 0 ∨ nI 3 ≤ x) (H : post 0) : wpX_isSide post (cc, cb, P, V, fp, sp, an, hd) x := br_c (fun _ => H) (fun a => br_t (Int32.lt_of_lt_of_le (by decide) (h.resolve_left a)) H)
theorem cx_so {j : Nat} (e : x = nI j) (hj : j < 3) (H : post 1) : wpX_isSide post (cc, cb, P, V, fp, sp, an, hd) x := by
  subst e
  exact br_f (nI_pos (by omega)) (br_f (nI_nlt (b := j) (a := 2) (by omega) (by decide)) H)
theorem cx_fu {n : Nat} (en : cc = nI n) (hn : n = 20) (H : post 1) : wpX_isFull post (cc, cb, P, V, fp, sp, an, hd) := by
  subst en hn
  exact br_f (by decide) H
theorem cx_nf {n : Nat} (en : cc = nI n) (hn : n < 20) (H : post 0) : wpX_isFull post (cc, cb, P, V, fp, sp, an, hd) := by
  subst en
  exact br_t (nI_lt (b := 20) hn (by decide)) H
end
section
variable {ct nw : Int32} {T W fs sc hs : Nat → Int32} {post : Int32 → Prop} {x : Int32}
theorem cy_kb (h : x < 0 ∨ nI 64 ≤ x) (H : post 1) : wpY_badKey post (ct, nw, T, W, fs, sc, hs) x := br_c (fun _ => H) (fun a => br_f (fun z => absurd (Int32.le_trans (h.resolve_left a) z) (by decide)) H)
theorem cy_ko {j : Nat} (e : x = nI j) (hj : j < 64) (H : post 0) : wpY_badKey post (ct, nw, T, W, fs, sc, hs) x := by
  subst e
  exact br_f (nI_pos (by omega)) (br_t (nI_le (b := 63) (by omega) (by decide)) H)
theorem cy_bb (h : x < 0 ∨ nI 4 ≤ x) (H : post 1) : wpY_badBranch post (ct, nw, T, W, fs, sc, hs) x := br_c (fun _ => H) (fun a => br_f (fun z => absurd (Int32.le_trans (h.resolve_left a) z) (by decide)) H)
theorem cy_bo {j : Nat} (e : x = nI j) (hj : j < 4) (H : post 0) : wpY_badBranch post (ct, nw, T, W, fs, sc, hs) x := by
  subst e
  exact br_f (nI_pos (by omega)) (br_t (nI_le (b := 3) (by omega) (by decide)) H)
theorem cy_mb {n : Nat} (en : ct = nI n) (h : x < 0 ∨ nI n ≤ x) (H : post 1) : wpY_bad post (ct, nw, T, W, fs, sc, hs) x := by
  subst en
  exact br_c (fun _ => H) (fun a => br_t (h.resolve_left a) H)
theorem cy_mo {n j : Nat} (en : ct = nI n) (hn : n ≤ 20) (e : x = nI j) (hj : j < n) (H : post 0) : wpY_bad post (ct, nw, T, W, fs, sc, hs) x := by
  subst e en
  exact br_f (nI_pos (by omega)) (br_f (nI_ge hj (by omega)) (br_t (nI_le (b := 19) (by omega) (by decide)) H))
end
