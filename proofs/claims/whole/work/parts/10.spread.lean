def cv_pI (A : Nat → Int32) (f s : Nat) (x : Nat → Int32) : Nat → Nat → Int32
  | 0 => A
  | i + 1 => upd (cv_pI A f s x i) (64 * 20 + (f + i * s)) (x i)
theorem cv_R_pI {P V T W : Nat → Int32} (R : cv_R P V T W) (f s : Nat) (x : Nat → Int32) : ∀ i, cv_R (cv_pI P f s (fun _ => 1) i) (cv_pI V f s x i) (cv_pI T f s (fun _ => 1) i) (cv_pI W f s x i)
  | 0 => R
  | i + 1 => cv_R_put (cv_R_pI R f s x i) (64 * 20 + (f + i * s)) (x i)
theorem cv_m (f s : Nat) : ∀ c, ∃ m, m ≤ c ∧ (∀ i, i < m → f + i * s < 64) ∧ (m = c ∨ 64 ≤ f + m * s)
  | 0 => ⟨0, Nat.le_refl 0, fun i hi => absurd hi (Nat.not_lt_zero i), Or.inl rfl⟩
  | c + 1 => by
    obtain ⟨m, hm, hl, h⟩ := cv_m f s c
    by_cases h64 : 64 ≤ f + m * s
    · exact ⟨m, by omega, hl, Or.inr h64⟩
    · obtain rfl := h.resolve_right h64
      refine ⟨m + 1, by omega, fun i hi => ?_, Or.inl rfl⟩
      by_cases e : i = m
      · subst e
        omega
      · exact hl i (by omega)
theorem cv_sh6 {x : Int32} (h : x < 64) : x >>> ((6 : Int32) &&& 31) < 1 := by
  rw [Int32.lt_iff_toInt_lt] at h ⊢
  rw [pk_shr x _ 6 (by decide), Int.shiftRight_eq_div_pow]
  have e1 : (64 : Int32).toInt = 64 := by decide
  have e2 : (1 : Int32).toInt = 1 := by decide
  rw [e1] at h
  rw [e2]
  omega
section
variable {cc cb ct nw : Int32} {P V fp sp an hd T W fs sc hs : Nat → Int32}
theorem cx_spl {post : Int32 → SX → Prop} (x3 : Int32) (f s c m : Nat) (h6 : s ≤ 16) (hc : c ≤ 64) (hm : m ≤ c) (hl : ∀ i, i < m → f + i * s < 64) (hf : f < 64) (hz : m = c ∨ 64 ≤ f + m * s) (h : post (nI m) (cc, cb, cv_pI P f s (fun _ => 1) m, cv_pI V f s (fun i => x3 + nI i) m, fp, sp, an, hd)) : ∀ d i, i + d = m → wX_spread_46 post x3 (nI s) (nI c) (d + 1) (nI i) (nI (f + i * s)) cc cb (cv_pI P f s (fun _ => 1) i) (cv_pI V f s (fun i => x3 + nI i) i) fp sp an hd := by
  intro d
  induction d with
  | zero =>
    intro i hi
    obtain rfl : i = m := by omega
    have hb : i * s ≤ 64 * 16 := Nat.mul_le_mul (by omega) h6
    rcases hz with hz | hz
    · subst hz
      exact br_c (fun _ => h) (fun _ => br_t (nI_le (Nat.le_refl i) (by omega)) h)
    · exact br_t (nI_le (a := 64) hz (by omega)) h
  | succ d ih =>
    intro i hi
    have hi' := hl i (by omega)
    refine br_f (cv_64 hi') (br_f (nI_ge (by omega) (by omega)) (cx_sw (f + i * s) rfl hi' (nm_r (nI_1 i) (nm_r (e' := nI (f + (i + 1) * s)) ?_ (ih (i + 1) (by omega))))))
    rw [nI_add, Nat.succ_mul, Nat.add_assoc]
theorem cx_sp {post : Int32 → SX → Prop} (x3 : Int32) (f s c m : Nat) (h6 : s ≤ 16) (hc : c ≤ 64) (hm : m ≤ c) (hl : ∀ i, i < m → f + i * s < 64) (hf : f < 64) (hz : m = c ∨ 64 ≤ f + m * s) (h : post (nI m) (cc, cb, cv_pI P f s (fun _ => 1) m, cv_pI V f s (fun i => x3 + nI i) m, fp, sp, an, hd)) : ∃ n, wX_spread_46 post x3 (nI s) (nI c) n 0 (nI f) cc cb P V fp sp an hd := by
  have z := cx_spl x3 f s c m h6 hc hm hl hf hz h m 0 (by omega)
  rw [Nat.zero_mul, Nat.add_zero] at z
  exact ⟨m + 1, z⟩
theorem cy_spd {post : Int32 → SY → Prop} (x3 : Int32) (f p m : Nat) (hp : p < 2 ^ 31) (h6 : p / 64 ≤ 16) (hm : m ≤ p % 64 + 1) (hf : f < 64) (hz : m = p % 64 + 1 ∨ 64 ≤ f + m * (p / 64)) (h : post (nI m) (ct, nw, T, W, fs, sc, hs)) : ∀ d i, i + d = p % 64 + 1 → m ≤ i → wY_spread_34 post (nI f) (nI p) x3 (d + 1) (nI m) (nI i) ct nw T W fs sc hs := by
  have e1 : nI p - nI p / 64 * 64 = nI (p % 64) := pk_rem (d := 64) hp (by omega) (by omega)
  have e2 : nI p / 64 = nI (p / 64) := pk_div (d := 64) hp (by omega) (by omega)
  intro d
  induction d with
  | zero =>
    intro i hi _
    refine ⟨by decide, ?_⟩
    rw [e1]
    exact br_t (nI_lt (by omega) (by omega)) h
  | succ d ih =>
    intro i hi hmi
    have h64 : 64 ≤ f + i * (p / 64) := by
      have := hz.resolve_left (by omega)
      have h2 : m * (p / 64) ≤ i * (p / 64) := Nat.mul_le_mul_right _ hmi
      omega
    have hb : i * (p / 64) ≤ 64 * 16 := Nat.mul_le_mul (by omega) h6
    refine ⟨by decide, ?_⟩
    rw [e1]
    refine br_f (nI_nlt (by omega) (by omega)) ⟨by decide, nm_r (e' := nI (f + i * (p / 64))) ?_ (br_t (nI_le (a := 64) h64 (by omega)) (nm_r (nI_1 i) (ih (i + 1) (by omega) (by omega))))⟩
    rw [e2, pk_mul, nI_add]
end
section
variable {ct nw : Int32} {T W fs sc hs : Nat → Int32}
theorem cy_spl {post : Int32 → SY → Prop} (x3 : Int32) (f p m : Nat) (hp : p < 2 ^ 31) (h6 : p / 64 ≤ 16) (hm : m ≤ p % 64 + 1) (hf : f < 64) (hl : ∀ i, i < m → f + i * (p / 64) < 64) (hz : m = p % 64 + 1 ∨ 64 ≤ f + m * (p / 64)) (h : post (nI m) (ct, nw, cv_pI T f (p / 64) (fun _ => 1) m, cv_pI W f (p / 64) (fun i => x3 + nI i) m, fs, sc, hs)) : ∀ d i, i + d = m → wY_spread_34 post (nI f) (nI p) x3 (d + (p % 64 + 1 - m) + 1) (nI i) (nI i) ct nw (cv_pI T f (p / 64) (fun _ => 1) i) (cv_pI W f (p / 64) (fun i => x3 + nI i) i) fs sc hs := by
  have e1 : nI p - nI p / 64 * 64 = nI (p % 64) := pk_rem (d := 64) hp (by omega) (by omega)
  have e2 : nI p / 64 = nI (p / 64) := pk_div (d := 64) hp (by omega) (by omega)
  intro d
  induction d with
  | zero =>
    intro i hi
    obtain rfl : i = m := by omega
    rw [Nat.zero_add]
    exact cy_spd x3 f p i hp h6 hm hf hz h (p % 64 + 1 - i) i (by omega) (Nat.le_refl i)
  | succ d ih =>
    intro i hi
    have hi' := hl i (by omega)
    rw [Nat.add_right_comm d 1]
    refine ⟨by decide, ?_⟩
    rw [e1]
    refine br_f (nI_nlt (by omega) (by omega)) ⟨by decide, nm_r (e' := nI (f + i * (p / 64))) ?_ (br_f (cv_64 hi') (cy_pt (f + i * (p / 64)) rfl hi' (nm_r (nI_1 i) (nm_r (nI_1 i) (ih (i + 1) (by omega))))))⟩
    rw [e2, pk_mul, nI_add]
theorem cy_sp {post : Int32 → SY → Prop} (x3 : Int32) (f p m : Nat) (hp : p < 2 ^ 31) (h6 : p / 64 ≤ 16) (hm : m ≤ p % 64 + 1) (hf : f < 64) (hl : ∀ i, i < m → f + i * (p / 64) < 64) (hz : m = p % 64 + 1 ∨ 64 ≤ f + m * (p / 64)) (h : post (nI m) (ct, nw, cv_pI T f (p / 64) (fun _ => 1) m, cv_pI W f (p / 64) (fun i => x3 + nI i) m, fs, sc, hs)) : ∃ n, wY_spread_34 post (nI f) (nI p) x3 n 0 0 ct nw T W fs sc hs := ⟨_, cy_spl x3 f p m hp h6 hm hf hl hz h m 0 (by omega)⟩
end
theorem i_vc_spread {k : Nat} {u : SX} {v : SY} (I : i_Rel k u v) (hk : k + 4 ≤ 2048) (v1 : Int32) (v2 : Int32) (v3 : Int32) : wpX_spread (fun r u' => wpY_spread (fun r' v' => r' = r ∧ i_Rel (k + 4) u' v') v v1 v2 v3) u v1 v2 v3 := by
  obtain ⟨n, b, P, V, T, W, fp, sp, an, hd, rfl, rfl, I⟩ := I
  have R := I.2.2.1
  unfold wpX_spread wpY_spread
  rcases cv_ix v1 64 (by omega) with h | ⟨f, hf, rfl⟩
  · exact cx_kb h (br_t rfl (cy_kb h (br_f (by decide) ⟨rfl, cv_J I⟩)))
  · by_cases h64 : v2 < 64
    · exact cx_ko rfl hf (br_f (by decide) (nm_e (br_t (cv_sh6 h64) (cy_ko rfl hf (br_t rfl (br_t h64 ⟨rfl, cv_J I⟩))))))
    · obtain ⟨p, hp, rfl⟩ := nI_of (x := v2) (fun z => h64 (Int32.lt_trans z (by decide)))
      have hp64 : 64 ≤ p := by
        rw [show (64 : Int32) = nI 64 from rfl, nI_ltI hp (by omega)] at h64
        omega
      have eX : nI p >>> ((6 : Int32) &&& 31) = nI (p / 64) := pk_shrN hp _ 6 (by decide)
      have eC : (nI p &&& 63) + 1 = nI (p % 64 + 1) := by
        rw [pk_andN (m := 63) (by omega) 6 (by decide), nI_1]
      have eY : nI p / 64 = nI (p / 64) := pk_div (d := 64) hp (by omega) (by omega)
      have h1 : ¬ nI (p / 64) < 1 := nI_nlt (b := 1) (by omega) (by omega)
      by_cases h16 : p / 64 ≤ 16
      · have h16' : nI (p / 64) ≤ 16 := nI_le (b := 16) h16 (by omega)
        obtain ⟨m, hm, hl, hz⟩ := cv_m f (p / 64) (p % 64 + 1)
        refine cx_ko rfl hf (br_f (by decide) (nm_r eX (br_f h1 (br_t h16' (nm_r eC (cx_sp v3 f (p / 64) (p % 64 + 1) m h16 (by omega) hm hl hf hz ?_))))))
        refine cy_ko rfl hf (br_t rfl (br_f h64 ⟨by decide, ?_⟩))
        rw [eY]
        exact br_t h16' (cy_sp v3 f p m hp h16 hm hf hl hz ⟨rfl, cv_J (cv_I_R I (cv_R_pI R f (p / 64) (fun i => v3 + nI i) m))⟩)
      · have h16' : ¬ nI (p / 64) ≤ 16 := nI_ge (a := 16) (by omega) (by omega)
        refine cx_ko rfl hf (br_f (by decide) (nm_r eX (br_f h1 (br_f h16' ?_))))
        refine cy_ko rfl hf (br_t rfl (br_f h64 ⟨by decide, ?_⟩))
        rw [eY]
        exact br_f h16' ⟨rfl, cv_J I⟩
