section
theorem pk_us {f : Nat → Int32} {k : Nat} {x : Int32} : upd f k x k = x := if_pos rfl
theorem pk_un {f : Nat → Int32} {k j : Nat} {x : Int32} (h : j ≠ k) : upd f k x j = f j := if_neg h
theorem pk_sub {a b : Nat} (h : b ≤ a) : nI a - nI b = nI (a - b) := by
  obtain ⟨c, rfl⟩ : ∃ c, a = c + b := ⟨a - b, by omega⟩
  rw [← nI_add, Int32.add_sub_cancel, Nat.add_sub_cancel]
theorem pk_m1 (n : Nat) : nI (n + 1) + (-1) = nI n := by
  rw [← nI_1, Int32.add_assoc, show (1 : Int32) + (-1) = 0 from rfl, Int32.add_zero]
theorem pk_mul (a b : Nat) : nI a * nI b = nI (a * b) := (Int32.ofNat_mul a b).symm
theorem pk_div {a d : Nat} (ha : a < 2 ^ 31) (h0 : 0 < d) (hd : d < 2 ^ 31) : nI a / nI d = nI (a / d) := by
  apply Int32.toInt_inj.mp
  rw [lg_idiv_nonneg (by rw [nI_toInt ha]; omega) (by rw [nI_toInt hd]; omega), nI_toInt ha, nI_toInt hd, nI_toInt (Nat.lt_of_le_of_lt (Nat.div_le_self a d) ha)]
  first | rfl | exact (Int.natCast_ediv _ _).symm
theorem pk_rem {a d : Nat} (ha : a < 2 ^ 31) (h0 : 0 < d) (hd : d < 2 ^ 31) : nI a - nI a / nI d * nI d = nI (a % d) := by
  rw [pk_div ha h0 hd, pk_mul, pk_sub (Nat.div_mul_le_self a d)]
  exact congrArg nI (by have := Nat.div_add_mod' a d; omega)
theorem pk_ix (x : Int32) {n : Nat} (hn : n < 2 ^ 31) : x < 0 ∨ nI n ≤ x ∨ ∃ j : Nat, j < n ∧ x = nI j := by
  by_cases h : x < 0
  · exact Or.inl h
  · obtain ⟨j, hj, rfl⟩ := nI_of h
    by_cases h2 : j < n
    · exact Or.inr (Or.inr ⟨j, h2, rfl⟩)
    · exact Or.inr (Or.inl (nI_le (by omega) hj))
theorem pk_le {x y : Int32} {A B : Prop} (a b : Nat) (f : a ≤ b → A) (g : b < a → B) (hx : x = nI a := by rfl) (hy : y = nI b := by rfl) (ha : a < 2 ^ 31 := by omega) (hb : b < 2 ^ 31 := by omega) : (x ≤ y → A) ∧ (¬ x ≤ y → B) := by
  subst hx hy
  rw [nI_leI ha hb]
  exact ⟨f, fun z => g (by omega)⟩
theorem pk_lt {x y : Int32} {A B : Prop} (a b : Nat) (f : a < b → A) (g : b ≤ a → B) (hx : x = nI a := by rfl) (hy : y = nI b := by rfl) (ha : a < 2 ^ 31 := by omega) (hb : b < 2 ^ 31 := by omega) : (x < y → A) ∧ (¬ x < y → B) := by
  subst hx hy
  rw [nI_ltI ha hb]
  exact ⟨f, fun z => g (by omega)⟩
theorem pk_eq {x y : Int32} {A B : Prop} (a b : Nat) (f : a = b → A) (g : a ≠ b → B) (hx : x = nI a := by rfl) (hy : y = nI b := by rfl) (ha : a < 2 ^ 31 := by omega) (hb : b < 2 ^ 31 := by omega) : (x = y → A) ∧ (¬ x = y → B) := by
  subst hx hy
  rw [nI_eq ha hb]
  exact ⟨f, g⟩
theorem pk_in {x : Int32} (n N : Nat) (h : n < N) (hx : x = nI n := by rfl) (hN : N < 2 ^ 31 := by omega) : vp_in x N := by
  subst hx
  exact vp_in_nI h hN
theorem pk_cl {x : Int32} (n : Nat) (hx : x = nI n := by rfl) (h : n < 2 ^ 31 := by omega) : x.toNatClampNeg = n := by
  subst hx
  exact nI_clamp h
theorem pk_tn {n : Nat} (h : n < 2 ^ 32) : (nI n).toBitVec.toNat = n := Nat.mod_eq_of_lt h
theorem pk_and (x : Int32) {m : Int32} (k : Nat) (hm : m.toBitVec.toNat = 2 ^ k - 1) : x &&& m = nI (x.toBitVec.toNat % 2 ^ k) := by
  apply Int32.toBitVec_inj.mp
  apply BitVec.eq_of_toNat_eq
  rw [Int32.toBitVec_and, BitVec.toNat_and, hm, Nat.and_two_pow_sub_one_eq_mod]
  show _ = (BitVec.ofNat 32 _).toNat
  rw [BitVec.toNat_ofNat]
  exact (Nat.mod_eq_of_lt (Nat.lt_of_le_of_lt (Nat.mod_le _ _) x.toBitVec.isLt)).symm
theorem pk_andN {n : Nat} (h : n < 2 ^ 32) {m : Int32} (k : Nat) (hm : m.toBitVec.toNat = 2 ^ k - 1) : nI n &&& m = nI (n % 2 ^ k) := by
  rw [pk_and _ k hm, pk_tn h]
theorem pk_shl (a s : Int32) (k : Nat) (hs : (s.toBitVec.smod 32).toNat = k) : (a <<< s).toBitVec.toNat = a.toBitVec.toNat * 2 ^ k % 2 ^ 32 := by
  show (a.toBitVec <<< (s.toBitVec.smod 32).toNat).toNat = _
  rw [hs, BitVec.toNat_shiftLeft, Nat.shiftLeft_eq]
theorem pk_shlN {n : Nat} (s : Int32) (k : Nat) (hs : (s.toBitVec.smod 32).toNat = k) (h : n * 2 ^ k < 2 ^ 32) : nI n <<< s = nI (n * 2 ^ k) := by
  apply Int32.toBitVec_inj.mp
  apply BitVec.eq_of_toNat_eq
  have hn : n < 2 ^ 32 := Nat.lt_of_le_of_lt (Nat.le_mul_of_pos_right n (Nat.two_pow_pos k)) h
  rw [pk_shl _ _ k hs, pk_tn hn, pk_tn h, Nat.mod_eq_of_lt h]
theorem pk_shr (a s : Int32) (k : Nat) (hs : (s.toBitVec.smod 32).toNat = k) : (a >>> s).toInt = a.toInt >>> k := by
  show (a.toBitVec.sshiftRight (s.toBitVec.smod 32).toNat).toInt = _
  rw [hs, BitVec.toInt_sshiftRight]
  rfl
theorem pk_shrN {n : Nat} (h : n < 2 ^ 31) (s : Int32) (k : Nat) (hs : (s.toBitVec.smod 32).toNat = k) : nI n >>> s = nI (n / 2 ^ k) := by
  apply Int32.toInt_inj.mp
  have h2 : n / 2 ^ k ≤ n := Nat.div_le_self _ _
  rw [pk_shr _ _ k hs, nI_toInt h, nI_toInt (by omega), Int.shiftRight_eq_div_pow]
  rfl
def bt (x : Int32) (i : Nat) : Bool := x.toBitVec.getLsbD i
theorem b_ext {x y : Int32} (h : ∀ i, i < 32 → bt x i = bt y i) : x = y := Int32.toBitVec_inj.mp (BitVec.eq_of_getLsbD_eq (fun i hi => h i hi))
theorem b_or (x y : Int32) (i : Nat) : bt (x ||| y) i = (bt x i || bt y i) := by unfold bt; rw [Int32.toBitVec_or, BitVec.getLsbD_or]
theorem b_and (x y : Int32) (i : Nat) : bt (x &&& y) i = (bt x i && bt y i) := by unfold bt; rw [Int32.toBitVec_and, BitVec.getLsbD_and]
theorem b_big {x : Int32} {i : Nat} (h : 32 ≤ i) : bt x i = false := BitVec.getLsbD_of_ge _ _ h
theorem b_0 (i : Nat) : bt 0 i = false := BitVec.getLsbD_zero
theorem s_l : ∀ n, n < 32 → ((nI n &&& 31).toBitVec.smod 32).toNat = n := by decide +kernel
theorem b_shl (n : Nat) (hn : n < 32) (x : Int32) {i : Nat} (hi : i < 32) : bt (x <<< (nI n &&& 31)) i = (decide (n ≤ i) && bt x (i - n)) := by
  unfold bt
  rw [Int32.toBitVec_shiftLeft]
  show (x.toBitVec <<< ((nI n &&& 31).toBitVec.smod 32).toNat).getLsbD i = _
  rw [s_l n hn, BitVec.getLsbD_shiftLeft]
  rcases Nat.lt_or_ge i n with h | h
  · simp [h, Nat.not_le.mpr h]
  · simp [hi, h, Nat.not_lt.mpr h]
theorem b_sshr (n : Nat) (hn : n < 32) (x : Int32) {i : Nat} (hi : i < 32) : bt (x >>> (nI n &&& 31)) i = if n + i < 32 then bt x (n + i) else bt x 31 := by
  unfold bt
  rw [Int32.toBitVec_shiftRight]
  show (x.toBitVec.sshiftRight ((nI n &&& 31).toBitVec.smod 32).toNat).getLsbD i = _
  rw [s_l n hn, BitVec.getLsbD_sshiftRight, BitVec.msb_eq_getLsbD_last]
  simp [hi]
end
section
def cv_i (b : Bool) : Int32 := match b with
  | true => 1
  | false => 0
theorem cv_br {b : Bool} {A B : Prop} (f : b = false → A) (t : b = true → B) : (cv_i b = 0 → A) ∧ (¬ cv_i b = 0 → B) := by
  cases b
  · exact br_t rfl (f rfl)
  · exact br_f (by decide) (t rfl)
/-- two maps agree on a key, as the component reads it -/
def cv_ag (P V : Nat → Int32) (a b k : Nat) : Bool := decide (P (64 * a + k) = P (64 * b + k)) && decide (V (64 * a + k) = V (64 * b + k))
def cv_cf (P V : Nat → Int32) (o a b k : Nat) : Bool := !cv_ag P V a b k && !cv_ag P V a o k && !cv_ag P V b o k
def cv_ct (q : Nat → Bool) : Nat → Int32
  | 0 => 0
  | i + 1 => match q i with
    | true => cv_ct q i + 1
    | false => cv_ct q i
theorem cv_ct_t {q : Nat → Bool} {i : Nat} (h : q i = true) : cv_ct q i + 1 = cv_ct q (i + 1) := by simp only [cv_ct, h]
theorem cv_ct_f {q : Nat → Bool} {i : Nat} (h : q i = false) : cv_ct q i = cv_ct q (i + 1) := by simp only [cv_ct, h]
/-- the greatest bit below 20 that is set, or 0 -/
def cv_gc (m : Int32) : Nat → Nat
  | 0 => 0
  | i + 1 => if ((m >>> (nI i &&& 31)) &&& 1) = 1 then i else cv_gc m i
theorem cv_gc_le (m : Int32) : ∀ i, cv_gc m i ≤ i
  | 0 => Nat.le_refl 0
  | i + 1 => by
    have := cv_gc_le m i
    unfold cv_gc
    split <;> omega
theorem cv_gc_lt (m : Int32) : cv_gc m 20 < 20 := by
  have := cv_gc_le m 19
  unfold cv_gc
  split <;> omega
def cv_an (m : Int32) : Nat → Int32
  | 0 => 0
  | i + 1 => cv_an m i + ((m >>> (nI i &&& 31)) &&& 1)
/-- cells t*64 .. t*64+i-1 filled from the cells that g names -/
def cv_mx (A : Nat → Int32) (g : Nat → Nat) (t i : Nat) : Nat → Int32 := fun j => if 64 * t ≤ j ∧ j < 64 * t + i then A (g (j - 64 * t)) else A j
theorem cv_mx_0 (A : Nat → Int32) (g : Nat → Nat) (t : Nat) : cv_mx A g t 0 = A := by
  funext j
  unfold cv_mx
  rw [if_neg (by omega)]
theorem cv_mx_o {A : Nat → Int32} {g : Nat → Nat} {t i j : Nat} (h : j < 64 * t ∨ 64 * t + i ≤ j) : cv_mx A g t i j = A j := by
  unfold cv_mx
  rw [if_neg (by omega)]
theorem cv_mx_i {A : Nat → Int32} {g : Nat → Nat} {t i k : Nat} (h : k < i) : cv_mx A g t i (64 * t + k) = A (g k) := by
  unfold cv_mx
  rw [if_pos (by omega)]
  exact congrArg (fun z => A (g z)) (by omega)
theorem cv_mx_s {A : Nat → Int32} {g : Nat → Nat} {t i : Nat} (hi : i < 64) (hg : g i < 64 * t ∨ 64 * t + 64 ≤ g i) : upd (cv_mx A g t i) (64 * t + i) (cv_mx A g t i (g i)) = cv_mx A g t (i + 1) := by
  rw [cv_mx_o (by omega)]
  funext j
  unfold upd
  by_cases h : j = 64 * t + i
  · rw [if_pos h, h, cv_mx_i (Nat.lt_succ_self i)]
  · rw [if_neg h]
    unfold cv_mx
    by_cases h2 : 64 * t ≤ j ∧ j < 64 * t + i
    · rw [if_pos h2, if_pos (by omega)]
    · rw [if_neg h2, if_neg (by omega)]
/-- the cells of both sides -/
def cv_R (P V T W : Nat → Int32) : Prop := ∀ j, j < 1344 → T j = P j ∧ (P j = 0 ∨ P j = 1) ∧ (P j = 0 → V j = 0) ∧ (¬ P j = 0 → W j = V j)
theorem cv_nb {x : Int32} (h : x = 0 ∨ x = 1) : vp_nar .boolean x = x := by
  rcases h with h | h <;> rw [h] <;> decide
theorem cv_n1 : vp_nar .boolean 1 = 1 := cv_nb (Or.inr rfl)
theorem cv_n0 : vp_nar .boolean 0 = 0 := cv_nb (Or.inl rfl)
theorem cv_R_put {P V T W : Nat → Int32} (R : cv_R P V T W) (c : Nat) (x : Int32) : cv_R (upd P c 1) (upd V c x) (upd T c 1) (upd W c x) := by
  intro j hj
  by_cases h : j = c
  · subst h
    rw [pk_us, pk_us, pk_us, pk_us]
    exact ⟨rfl, Or.inr rfl, fun z => absurd z (by decide), fun _ => rfl⟩
  · rw [pk_un h, pk_un h, pk_un h, pk_un h]
    exact R j hj
theorem cv_R_del {P V T W : Nat → Int32} (R : cv_R P V T W) (c : Nat) : cv_R (upd P c 0) (upd V c 0) (upd T c 0) W := by
  intro j hj
  by_cases h : j = c
  · subst h
    rw [pk_us, pk_us, pk_us]
    exact ⟨rfl, Or.inl rfl, fun _ => rfl, fun z => absurd rfl z⟩
  · rw [pk_un h, pk_un h, pk_un h]
    exact R j hj
theorem cv_R_cp {P V T W : Nat → Int32} (R : cv_R P V T W) (g : Nat → Nat) (t : Nat) (hg : ∀ k, k < 64 → g k < 1344) : cv_R (cv_mx P g t 64) (cv_mx V g t 64) (cv_mx T g t 64) (cv_mx W g t 64) := by
  intro j hj
  unfold cv_mx
  by_cases h : 64 * t ≤ j ∧ j < 64 * t + 64
  · simp only [if_pos h]
    exact R _ (hg _ (by omega))
  · simp only [if_neg h]
    exact R j hj
/-- the merge: the component writes into map 20, the reference into map 21 and then from there into map 20; where the sources differ their cells agree -/
theorem cv_R_bl {P V T W : Nat → Int32} (R : cv_R P V T W) (gx gy : Nat → Nat) (hy : ∀ k, k < 64 → gy k < 1344) (hp : ∀ k, k < 64 → P (gx k) = P (gy k)) (hv : ∀ k, k < 64 → V (gx k) = V (gy k)) :
    cv_R (cv_mx P gx 20 64) (cv_mx V gx 20 64) (cv_mx (cv_mx T gy 21 64) (fun k => 64 * 21 + k) 20 64) (cv_mx (cv_mx W gy 21 64) (fun k => 64 * 21 + k) 20 64) := by
  intro j hj
  by_cases h : 64 * 20 ≤ j
  · obtain ⟨k, rfl⟩ : ∃ k, j = 64 * 20 + k := ⟨j - 64 * 20, by omega⟩
    have hk : k < 64 := by omega
    rw [cv_mx_i hk, cv_mx_i hk, cv_mx_i hk, cv_mx_i hk]
    rw [cv_mx_i hk, cv_mx_i hk, hp k hk, hv k hk]
    exact R _ (hy k hk)
  · have h' : j < 64 * 20 ∨ 64 * 20 + 64 ≤ j := by omega
    have h2 : j < 64 * 21 ∨ 64 * 21 + 64 ≤ j := by omega
    rw [cv_mx_o h', cv_mx_o h', cv_mx_o h', cv_mx_o h', cv_mx_o h2, cv_mx_o h2]
    exact R j hj
theorem cv_R_b {P V T W : Nat → Int32} (R : cv_R P V T W) {j : Nat} (hj : j < 1344) : P j = 0 ∨ P j = 1 := (R j hj).2.1
theorem cv_R_t {P V T W : Nat → Int32} (R : cv_R P V T W) {j : Nat} (hj : j < 1344) : T j = 0 ∨ T j = 1 := by rw [(R j hj).1]; exact (R j hj).2.1
theorem cv_cx (a k : Nat) : nI a * 64 + nI k = nI (64 * a + k) := by
  rw [show (64 : Int32) = nI 64 from rfl, pk_mul, nI_add, Nat.mul_comm a 64]
theorem cv_cy (a k : Nat) : 64 * nI a + nI k = nI (64 * a + k) := by
  rw [show (64 : Int32) = nI 64 from rfl, pk_mul, nI_add]
end
section
def cv_bp (p : Nat) : Int32 := (1 : Int32) <<< (nI p &&& 31)
theorem cv_b1 : ∀ i, i < 32 → bt 1 i = decide (i = 0) := by decide +kernel
theorem cv_bpb {p i : Nat} (hp : p < 32) (hi : i < 32) : bt (cv_bp p) i = decide (i = p) := by
  unfold cv_bp
  rw [b_shl p hp 1 hi, cv_b1 _ (by omega)]
  by_cases h : i = p
  · simp [h]
  · by_cases h2 : p ≤ i
    · have : ¬ i - p = 0 := by omega
      simp [h, this]
    · simp [h, h2]
theorem cv_and1 (y : Int32) : y &&& 1 = 1 ↔ bt y 0 = true := by
  rw [pk_and y (m := 1) 1 (by decide)]
  have h : bt y 0 = decide (y.toBitVec.toNat % 2 = 1) := Nat.testBit_zero _
  rw [h, show (1 : Int32) = nI 1 from rfl, nI_eq (by omega) (by omega), decide_eq_true_iff]
theorem cv_bit (s : Int32) {d : Nat} (hd : d < 32) : ((s >>> (nI d &&& 31)) &&& 1) = 1 ↔ bt s d = true := by
  rw [cv_and1, b_sshr d hd s (by omega), Nat.add_zero, if_pos hd]
def cv_o2 (x s : Int32) : Int32 := if x < 0 then s else s ||| ((1 : Int32) <<< (x &&& 31))
def cv_st (fs sc : Nat → Int32) (d : Nat) (s : Int32) : Int32 := if ((s >>> (nI d &&& 31)) &&& 1) = 1 then cv_o2 (sc d) (cv_o2 (fs d) s) else s
def cv_ln (fs sc : Nat → Int32) : Nat → Int32 → Int32
  | 0, s => s
  | d + 1, s => cv_ln fs sc d (cv_st fs sc d s)
def cv_line (fs sc : Nat → Int32) (c : Nat) : Int32 := cv_ln fs sc (c + 1) (cv_bp c)
def cv_pm (x : Int32) : Int32 := if x < 0 then 0 else (1 : Int32) <<< (x &&& 31)
theorem cv_o2b (x s : Int32) (i : Nat) : bt (cv_o2 x s) i = (bt s i || bt (cv_pm x) i) := by
  unfold cv_o2 cv_pm
  by_cases h : x < 0
  · rw [if_pos h, if_pos h, b_0, Bool.or_false]
  · rw [if_neg h, if_neg h, b_or]
theorem cv_stb (fs sc : Nat → Int32) {d : Nat} (hd : d < 32) (s : Int32) (i : Nat) : bt (cv_st fs sc d s) i = (bt s i || (bt s d && (bt (cv_pm (fs d)) i || bt (cv_pm (sc d)) i))) := by
  unfold cv_st
  by_cases h : ((s >>> (nI d &&& 31)) &&& 1) = 1
  · rw [if_pos h, cv_o2b, cv_o2b, (cv_bit s hd).mp h, Bool.true_and, Bool.or_assoc]
  · have h2 : bt s d = false := by
      cases z : bt s d
      · rfl
      · exact absurd ((cv_bit s hd).mpr z) h
    rw [if_neg h, h2, Bool.false_and, Bool.or_false]
theorem cv_st_or (fs sc : Nat → Int32) {d : Nat} (hd : d < 32) (s t : Int32) : cv_st fs sc d (s ||| t) = cv_st fs sc d s ||| cv_st fs sc d t := by
  apply b_ext
  intro i _
  rw [b_or, cv_stb fs sc hd, cv_stb fs sc hd, cv_stb fs sc hd, b_or, b_or]
  generalize bt s i = p
  generalize bt t i = q
  generalize bt s d = r
  generalize bt t d = u
  generalize (bt (cv_pm (fs d)) i || bt (cv_pm (sc d)) i) = w
  revert p q r u w
  decide
theorem cv_ln_or (fs sc : Nat → Int32) : ∀ d, d ≤ 32 → ∀ s t : Int32, cv_ln fs sc d (s ||| t) = cv_ln fs sc d s ||| cv_ln fs sc d t
  | 0, _, _, _ => rfl
  | d + 1, hd, s, t => by
    unfold cv_ln
    rw [cv_st_or fs sc (by omega), cv_ln_or fs sc d (by omega)]
theorem cv_st_id (fs sc : Nat → Int32) {d : Nat} (hd : d < 32) {s : Int32} (h : bt s d = false) : cv_st fs sc d s = s := by
  apply b_ext
  intro i _
  rw [cv_stb fs sc hd, h, Bool.false_and, Bool.or_false]
theorem cv_ln_id (fs sc : Nat → Int32) : ∀ d, d ≤ 32 → ∀ s : Int32, (∀ i, i < d → bt s i = false) → cv_ln fs sc d s = s
  | 0, _, _, _ => rfl
  | d + 1, hd, s, h => by
    unfold cv_ln
    rw [cv_st_id fs sc (by omega) (h d (by omega))]
    exact cv_ln_id fs sc d (by omega) s (fun i hi => h i (by omega))
theorem cv_ln_sk (fs sc : Nat → Int32) {p : Nat} : ∀ d, d ≤ 32 → p < d → cv_ln fs sc d (cv_bp p) = cv_line fs sc p
  | 0, _, h => absurd h (Nat.not_lt_zero p)
  | d + 1, hd, h => by
    by_cases e : d = p
    · subst e
      rfl
    · have h2 : p < d := by omega
      unfold cv_ln
      rw [cv_st_id fs sc (by omega) (by rw [cv_bpb (by omega) (by omega)]; exact decide_eq_false e)]
      exact cv_ln_sk fs sc d (by omega) h2
theorem cv_ln_cg {fs sc fs' sc' : Nat → Int32} : ∀ d (s : Int32), (∀ c, c < d → fs c = fs' c ∧ sc c = sc' c) → cv_ln fs sc d s = cv_ln fs' sc' d s
  | 0, _, _ => rfl
  | d + 1, s, h => by
    unfold cv_ln
    have e : cv_st fs sc d s = cv_st fs' sc' d s := by
      unfold cv_st
      rw [(h d (by omega)).1, (h d (by omega)).2]
    rw [e]
    exact cv_ln_cg d _ (fun c hc => h c (by omega))
theorem cv_line_cg {fs sc fs' sc' : Nat → Int32} (c : Nat) (h : ∀ d, d < c + 1 → fs d = fs' d ∧ sc d = sc' d) : cv_line fs sc c = cv_line fs' sc' c := cv_ln_cg (c + 1) _ h
theorem cv_pmN {h : Nat} (hh : h < 32) : cv_pm (nI h) = cv_bp h := by
  unfold cv_pm cv_bp
  rw [if_neg (nI_pos (by omega))]
theorem cv_or0 (s : Int32) : s ||| 0 = s := by
  apply b_ext
  intro i _
  rw [b_or, b_0, Bool.or_false]
/-- what the line of a commit is that has just been made -/
theorem cv_line_new (fs sc : Nat → Int32) {n h : Nat} (hn : n < 32) (hh : h < n) (e : fs n = nI h) : cv_line fs sc n = (cv_bp n ||| cv_line fs sc h) ||| cv_ln fs sc n (cv_pm (sc n)) := by
  have e2 : cv_st fs sc n (cv_bp n) = (cv_bp n ||| cv_bp h) ||| cv_pm (sc n) := by
    apply b_ext
    intro i hi
    rw [cv_stb fs sc hn, cv_bpb hn hn, b_or, b_or, e, cv_pmN (by omega)]
    simp [Bool.or_assoc]
  show cv_ln fs sc n (cv_st fs sc n (cv_bp n)) = _
  rw [e2, cv_ln_or fs sc n (by omega), cv_ln_or fs sc n (by omega), cv_ln_sk fs sc n (by omega) hh, cv_ln_id fs sc n (by omega) (cv_bp n) (fun i hi => by rw [cv_bpb hn (by omega)]; exact decide_eq_false (by omega))]
theorem cv_line_0 (fs sc : Nat → Int32) (h0 : fs 0 < 0) (h1 : sc 0 < 0) : cv_line fs sc 0 = 1 := by
  show cv_st fs sc 0 (cv_bp 0) = 1
  unfold cv_st cv_o2
  rw [if_pos h1, if_pos h0, ite_self]
  decide
theorem cv_ln_m1 (fs sc : Nat → Int32) {n : Nat} (hn : n ≤ 32) {x : Int32} (hx : x < 0) : cv_ln fs sc n (cv_pm x) = 0 := by
  unfold cv_pm
  rw [if_pos hx]
  exact cv_ln_id fs sc n hn 0 (fun i _ => b_0 i)
end
section
theorem cv_mx_c {A : Nat → Int32} {g : Nat → Nat} {t i c : Nat} (hi : i < 64) (hc : g i = c) (hg : c < 64 * t ∨ 64 * t + 64 ≤ c) : upd (cv_mx A g t i) (64 * t + i) (cv_mx A g t i c) = cv_mx A g t (i + 1) := by
  subst hc
  exact cv_mx_s hi hg
theorem cv_64 {i : Nat} (h : i < 64) : ¬ (64 : Int32) ≤ nI i := nI_ge (b := 64) h (by decide)
theorem cv_20 {i : Nat} (h : i < 20) : ¬ (20 : Int32) ≤ nI i := nI_ge (b := 20) h (by decide)
theorem cv_e64 : (64 : Int32) ≤ nI 64 := by decide
theorem cv_e20 : (20 : Int32) ≤ nI 20 := by decide
section
variable {cc cb : Int32} {P V fp sp an hd : Nat → Int32}
theorem cx_pr {post : Int32 → Prop} {p0 p1 : Int32} (a k : Nat) (e0 : p0 = nI a) (e1 : p1 = nI k) (ha : a < 21) (hk : k < 64) (h : post (cv_i (!decide (P (64 * a + k) = 0)))) : wpX_presence post (cc, cb, P, V, fp, sp, an, hd) p0 p1 := by
  subst e0 e1
  unfold wpX_presence wpX_cellOf
  dsimp only
  rw [cv_cx, nI_clamp (by omega)]
  refine ⟨vp_in_nI (by omega) (by omega), br_c (fun z => ?_) (fun z => ?_)⟩
  · rw [decide_eq_true z] at h; exact h
  · rw [decide_eq_false z] at h; exact h
theorem cx_sw {post : SX → Prop} {p0 p1 : Int32} (k : Nat) (e0 : p0 = nI k) (hk : k < 64) (h : post (cc, cb, upd P (64 * 20 + k) 1, upd V (64 * 20 + k) p1, fp, sp, an, hd)) : wpX_setWorking post (cc, cb, P, V, fp, sp, an, hd) p0 p1 := by
  subst e0
  unfold wpX_setWorking wpX_cellOf
  dsimp only
  rw [show (20 : Int32) * 64 + nI k = nI (64 * 20 + k) from cv_cx 20 k, nI_clamp (by omega), cv_n1]
  have i := vp_in_nI (n := 64 * 20 + k) (N := 1344) (by omega) (by omega)
  exact ⟨i, nm_e ⟨i, nm_e h⟩⟩
theorem cx_ck {post : SX → Prop} {p0 p1 p2 : Int32} (f t k : Nat) (e0 : p0 = nI f) (e1 : p1 = nI t) (e2 : p2 = nI k) (hf : f < 21) (ht : t < 21) (hk : k < 64) (hb : P (64 * f + k) = 0 ∨ P (64 * f + k) = 1) (h : post (cc, cb, upd P (64 * t + k) (P (64 * f + k)), upd V (64 * t + k) (V (64 * f + k)), fp, sp, an, hd)) : wpX_copyKey post (cc, cb, P, V, fp, sp, an, hd) p0 p1 p2 := by
  subst e0 e1 e2
  unfold wpX_copyKey wpX_cellOf
  dsimp only
  rw [cv_cx f k, cv_cx t k, nI_clamp (n := 64 * f + k) (by omega), nI_clamp (n := 64 * t + k) (by omega), cv_nb hb]
  have i := vp_in_nI (n := 64 * f + k) (N := 1344) (by omega) (by omega)
  have j := vp_in_nI (n := 64 * t + k) (N := 1344) (by omega) (by omega)
  exact ⟨i, j, nm_e ⟨i, j, nm_e h⟩⟩
theorem cx_cml {post : SX → Prop} {x1 x2 : Int32} (f t : Nat) (e1 : x1 = nI f) (e2 : x2 = nI t) (hf : f < 21) (ht : t < 21) (hft : f ≠ t) (hb : ∀ j, j < 1344 → P j = 0 ∨ P j = 1) (h : post (cc, cb, cv_mx P (fun k => 64 * f + k) t 64, cv_mx V (fun k => 64 * f + k) t 64, fp, sp, an, hd)) : ∀ d i, i + d = 64 → wX_copyMap_2 post x1 x2 (d + 1) (nI i) cc cb (cv_mx P (fun k => 64 * f + k) t i) (cv_mx V (fun k => 64 * f + k) t i) fp sp an hd := by
  intro d
  induction d with
  | zero =>
    intro i hi
    obtain rfl : i = 64 := by omega
    exact br_t cv_e64 h
  | succ d ih =>
    intro i hi
    have hi' : i < 64 := by omega
    have ho : 64 * f + i < 64 * t ∨ 64 * t + 64 ≤ 64 * f + i := by omega
    refine br_f (cv_64 hi') (cx_ck f t i e1 e2 rfl hf ht hi' (by rw [cv_mx_o (by omega)]; exact hb _ (by omega)) ?_)
    rw [cv_mx_c (g := fun k => 64 * f + k) hi' rfl ho, cv_mx_c (g := fun k => 64 * f + k) hi' rfl ho]
    exact nm_r (nI_1 i) (ih (i + 1) (by omega))
theorem cx_cm {post : SX → Prop} {p0 p1 : Int32} (f t : Nat) (e1 : p0 = nI f) (e2 : p1 = nI t) (hf : f < 21) (ht : t < 21) (hft : f ≠ t) (hb : ∀ j, j < 1344 → P j = 0 ∨ P j = 1) (h : post (cc, cb, cv_mx P (fun k => 64 * f + k) t 64, cv_mx V (fun k => 64 * f + k) t 64, fp, sp, an, hd)) : wpX_copyMap post (cc, cb, P, V, fp, sp, an, hd) p0 p1 := by
  have z := cx_cml f t e1 e2 hf ht hft hb h 64 0 rfl
  rw [cv_mx_0, cv_mx_0] at z
  exact ⟨65, z⟩
theorem cx_ag {post : Int32 → Prop} {p0 p1 p2 : Int32} (a b k : Nat) (e0 : p0 = nI a) (e1 : p1 = nI b) (e2 : p2 = nI k) (ha : a < 21) (hb : b < 21) (hk : k < 64) (h : post (cv_i (cv_ag P V a b k))) : wpX_agree post (cc, cb, P, V, fp, sp, an, hd) p0 p1 p2 := by
  subst e0 e1 e2
  unfold wpX_agree wpX_cellOf
  dsimp only
  rw [cv_cx a k, cv_cx b k, nI_clamp (n := 64 * a + k) (by omega), nI_clamp (n := 64 * b + k) (by omega)]
  have i := vp_in_nI (n := 64 * a + k) (N := 1344) (by omega) (by omega)
  have j := vp_in_nI (n := 64 * b + k) (N := 1344) (by omega) (by omega)
  unfold cv_ag at h
  refine ⟨i, j, br_c (fun e => ⟨i, j, br_c (fun e' => ?_) (fun e' => ?_)⟩) (fun e => ?_)⟩
  · rw [decide_eq_true e, decide_eq_true e'] at h; exact h
  · rw [decide_eq_true e, decide_eq_false e'] at h; exact h
  · rw [decide_eq_false e] at h; exact h
theorem cx_cf {post : Int32 → Prop} {p0 p1 p2 p3 : Int32} (o a b k : Nat) (e0 : p0 = nI o) (e1 : p1 = nI a) (e2 : p2 = nI b) (e3 : p3 = nI k) (ho : o < 21) (ha : a < 21) (hb : b < 21) (hk : k < 64) (h : post (cv_i (cv_cf P V o a b k))) : wpX_isConflict post (cc, cb, P, V, fp, sp, an, hd) p0 p1 p2 p3 := by
  unfold wpX_isConflict
  unfold cv_cf at h
  refine cx_ag a b k e1 e2 e3 ha hb hk (cv_br (fun x => cx_ag a o k e1 e0 e3 ha ho hk (cv_br (fun y => cx_ag b o k e2 e0 e3 hb ho hk (cv_br (fun z => ?_) (fun z => ?_))) (fun y => ?_))) (fun x => ?_))
  · rw [x, y, z] at h; exact h
  · rw [x, y, z] at h; exact h
  · rw [x, y] at h; exact h
  · rw [x] at h; exact h
theorem cx_cdl {post : Int32 → Prop} {x1 x2 : Int32} (a b : Nat) (e1 : x1 = nI a) (e2 : x2 = nI b) (ha : a < 21) (hb : b < 21) (h : post (cv_ct (fun k => !cv_ag P V a b k) 64)) : ∀ d i, i + d = 64 → wX_countDifferences_5 post x1 x2 cc cb P V fp sp an hd (d + 1) (cv_ct (fun k => !cv_ag P V a b k) i) (nI i) := by
  intro d
  induction d with
  | zero =>
    intro i hi
    obtain rfl : i = 64 := by omega
    exact br_t cv_e64 h
  | succ d ih =>
    intro i hi
    have hi' : i < 64 := by omega
    refine br_f (cv_64 hi') (cx_ag a b i e1 e2 rfl ha hb hi' (cv_br (fun z => ?_) (fun z => ?_)))
    · exact nm_r (cv_ct_t (q := fun k => !cv_ag P V a b k) (by rw [z]; rfl)) (nm_r (nI_1 i) (ih (i + 1) (by omega)))
    · rw [cv_ct_f (q := fun k => !cv_ag P V a b k) (by rw [z]; rfl)]
      exact nm_r (nI_1 i) (ih (i + 1) (by omega))
theorem cx_cd {post : Int32 → Prop} {p0 p1 : Int32} (a b : Nat) (e1 : p0 = nI a) (e2 : p1 = nI b) (ha : a < 21) (hb : b < 21) (h : post (cv_ct (fun k => !cv_ag P V a b k) 64)) : wpX_countDifferences post (cc, cb, P, V, fp, sp, an, hd) p0 p1 := ⟨65, cx_cdl a b e1 e2 ha hb h 64 0 rfl⟩
theorem cx_ccl {post : Int32 → Prop} {x1 x2 x3 : Int32} (o a b : Nat) (e1 : x1 = nI o) (e2 : x2 = nI a) (e3 : x3 = nI b) (ho : o < 21) (ha : a < 21) (hb : b < 21) (h : post (cv_ct (cv_cf P V o a b) 64)) : ∀ d i, i + d = 64 → wX_countConflicts_6 post x1 x2 x3 cc cb P V fp sp an hd (d + 1) (cv_ct (cv_cf P V o a b) i) (nI i) := by
  intro d
  induction d with
  | zero =>
    intro i hi
    obtain rfl : i = 64 := by omega
    exact br_t cv_e64 h
  | succ d ih =>
    intro i hi
    have hi' : i < 64 := by omega
    refine br_f (cv_64 hi') (cx_cf o a b i e1 e2 e3 rfl ho ha hb hi' (cv_br (fun z => ?_) (fun z => ?_)))
    · rw [cv_ct_f z]
      exact nm_r (nI_1 i) (ih (i + 1) (by omega))
    · exact nm_r (cv_ct_t z) (nm_r (nI_1 i) (ih (i + 1) (by omega)))
theorem cx_cc {post : Int32 → Prop} {p0 p1 p2 : Int32} (o a b : Nat) (e1 : p0 = nI o) (e2 : p1 = nI a) (e3 : p2 = nI b) (ho : o < 21) (ha : a < 21) (hb : b < 21) (h : post (cv_ct (cv_cf P V o a b) 64)) : wpX_countConflicts post (cc, cb, P, V, fp, sp, an, hd) p0 p1 p2 := ⟨65, cx_ccl o a b e1 e2 e3 ho ha hb h 64 0 rfl⟩
theorem cx_gcl {post : Int32 → Prop} (m : Int32) (h : post (nI (cv_gc m 20))) : ∀ d i, i + d = 20 → wX_greatestCommonAncestor_20 post m cc cb P V fp sp an hd (d + 1) (nI (cv_gc m i)) (nI i) := by
  intro d
  induction d with
  | zero =>
    intro i hi
    obtain rfl : i = 20 := by omega
    exact br_t cv_e20 h
  | succ d ih =>
    intro i hi
    have hi' : i < 20 := by omega
    have z := ih (i + 1) (by omega)
    refine br_f (cv_20 hi') (br_c (fun e => ?_) (fun e => ?_))
    · rw [cv_gc, if_pos e] at z
      exact nm_r (nI_1 i) z
    · rw [cv_gc, if_neg e] at z
      exact nm_r (nI_1 i) z
theorem cx_gc {post : Int32 → Prop} {p0 p1 : Int32} (a b : Nat) (e1 : p0 = nI a) (e2 : p1 = nI b) (ha : a < 20) (hb : b < 20) (h : post (nI (cv_gc (an a &&& an b) 20))) : wpX_greatestCommonAncestor post (cc, cb, P, V, fp, sp, an, hd) p0 p1 := by
  subst e1 e2
  unfold wpX_greatestCommonAncestor
  rw [nI_clamp (n := a) (by omega), nI_clamp (n := b) (by omega)]
  exact ⟨vp_in_nI ha (by omega), vp_in_nI hb (by omega), nm_e ⟨21, cx_gcl _ h 20 0 rfl⟩⟩
/-- the cell that the merge takes a key from -/
def cx_g (P V : Nat → Int32) (o a b : Nat) (s : Int32) (k : Nat) : Nat := match (match cv_cf P V o a b k with | true => decide (s = 1) | false => cv_ag P V a o k) with
  | true => 64 * b + k
  | false => 64 * a + k
theorem cx_g_lt {P V : Nat → Int32} {o a b : Nat} {s : Int32} {k : Nat} (ha : a < 20) (hb : b < 20) (hk : k < 64) : cx_g P V o a b s k < 1280 := by
  unfold cx_g
  generalize (match cv_cf P V o a b k with | true => decide (s = 1) | false => cv_ag P V a o k) = t
  cases t
  · show 64 * a + k < 1280
    omega
  · show 64 * b + k < 1280
    omega
theorem cv_ag_cg {P V P' V' : Nat → Int32} {a b k : Nat} (hp : ∀ j, j < 1280 → P' j = P j) (hv : ∀ j, j < 1280 → V' j = V j) (ha : a < 20) (hb : b < 20) (hk : k < 64) : cv_ag P' V' a b k = cv_ag P V a b k := by
  unfold cv_ag
  rw [hp _ (by omega), hp _ (by omega), hv _ (by omega), hv _ (by omega)]
theorem cv_cf_cg {P V P' V' : Nat → Int32} {o a b k : Nat} (hp : ∀ j, j < 1280 → P' j = P j) (hv : ∀ j, j < 1280 → V' j = V j) (ho : o < 20) (ha : a < 20) (hb : b < 20) (hk : k < 64) : cv_cf P' V' o a b k = cv_cf P V o a b k := by
  unfold cv_cf
  rw [cv_ag_cg hp hv ha hb hk, cv_ag_cg hp hv ha ho hk, cv_ag_cg hp hv hb ho hk]
theorem cx_mil {post : SX → Prop} {x1 x2 x3 x4 : Int32} (o a b : Nat) (e1 : x1 = nI o) (e2 : x2 = nI a) (e3 : x3 = nI b) (ho : o < 20) (ha : a < 20) (hb : b < 20) (hB : ∀ j, j < 1344 → P j = 0 ∨ P j = 1) (h : post (cc, cb, cv_mx P (cx_g P V o a b x4) 20 64, cv_mx V (cx_g P V o a b x4) 20 64, fp, sp, an, hd)) : ∀ d i, i + d = 64 → wX_mergeIntoWorking_3 post x1 x2 x3 x4 (d + 1) (nI i) cc cb (cv_mx P (cx_g P V o a b x4) 20 i) (cv_mx V (cx_g P V o a b x4) 20 i) fp sp an hd := by
  intro d
  induction d with
  | zero =>
    intro i hi
    obtain rfl : i = 64 := by omega
    exact br_t cv_e64 h
  | succ d ih =>
    intro i hi
    have hi' : i < 64 := by omega
    have hp : ∀ j, j < 1280 → cv_mx P (cx_g P V o a b x4) 20 i j = P j := fun j hj => cv_mx_o (by omega)
    have hv : ∀ j, j < 1280 → cv_mx V (cx_g P V o a b x4) 20 i j = V j := fun j hj => cv_mx_o (by omega)
    have fin : ∀ z0 c, c < 20 → z0 = nI c → cx_g P V o a b x4 i = 64 * c + i → wX_mergeIntoWorking_56 post (wX_mergeIntoWorking_3 post x1 x2 x3 x4 (d + 1)) x1 x2 x3 x4 (nI i) z0 cc cb (cv_mx P (cx_g P V o a b x4) 20 i) (cv_mx V (cx_g P V o a b x4) 20 i) fp sp an hd := by
      intro z0 c hc ez eg
      unfold wX_mergeIntoWorking_56
      refine cx_ck c 20 i ez rfl rfl (by omega) (by omega) hi' (by rw [hp _ (by omega)]; exact hB _ (by omega)) ?_
      rw [cv_mx_c hi' eg (by omega), cv_mx_c hi' eg (by omega)]
      exact nm_r (nI_1 i) (ih (i + 1) (by omega))
    refine br_f (cv_64 hi') (cx_ag a o i e2 e1 rfl (by omega) (by omega) hi' (cx_cf o a b i e1 e2 e3 rfl (by omega) (by omega) (by omega) hi' ?_))
    rw [cv_ag_cg hp hv ha ho hi', cv_cf_cg hp hv ho ha hb hi']
    refine cv_br (fun z => ?_) (fun z => br_c (fun s1 => ?_) (fun s1 => ?_))
    · unfold wX_mergeIntoWorking_45
      refine cv_br (fun y => ?_) (fun y => ?_)
      · exact fin _ a ha e2 (by unfold cx_g; rw [z, y])
      · exact fin _ b hb e3 (by unfold cx_g; rw [z, y])
    · unfold wX_mergeIntoWorking_43 wX_mergeIntoWorking_45
      exact br_f (by decide) (fin _ b hb e3 (by unfold cx_g; rw [z, decide_eq_true s1]))
    · unfold wX_mergeIntoWorking_43 wX_mergeIntoWorking_45
      exact br_t rfl (fin _ a ha e2 (by unfold cx_g; rw [z, decide_eq_false s1]))
theorem cx_mi {post : SX → Prop} {p0 p1 p2 p3 : Int32} (o a b : Nat) (e1 : p0 = nI o) (e2 : p1 = nI a) (e3 : p2 = nI b) (ho : o < 20) (ha : a < 20) (hb : b < 20) (hB : ∀ j, j < 1344 → P j = 0 ∨ P j = 1) (h : post (cc, cb, cv_mx P (cx_g P V o a b p3) 20 64, cv_mx V (cx_g P V o a b p3) 20 64, fp, sp, an, hd)) : wpX_mergeIntoWorking post (cc, cb, P, V, fp, sp, an, hd) p0 p1 p2 p3 := by
  have z := cx_mil o a b e1 e2 e3 ho ha hb hB h 64 0 rfl
  rw [cv_mx_0, cv_mx_0] at z
  exact ⟨65, z⟩
theorem cx_lw {post : Int32 → SX → Prop} {p0 : Int32} (c : Nat) (e : p0 = nI c) (hc : c < 20) (hB : ∀ j, j < 1344 → P j = 0 ∨ P j = 1) (h : post (cv_ct (fun k => !cv_ag P V 20 c k) 64) (cc, cb, cv_mx P (fun k => 64 * c + k) 20 64, cv_mx V (fun k => 64 * c + k) 20 64, fp, sp, an, hd)) : wpX_loadWorking post (cc, cb, P, V, fp, sp, an, hd) p0 := by
  unfold wpX_loadWorking
  exact cx_cd 20 c rfl e (by omega) (by omega) (cx_cm c 20 e rfl (by omega) (by omega) (by omega) hB h)
theorem cx_cl {post : Int32 → Prop} (b h : Nat) (eb : cb = nI b) (hb : b < 4) (eh : hd b = nI h) (hh : h < 20) (H : post (cv_i (decide (cv_ct (fun k => !cv_ag P V 20 h k) 64 = 0)))) : wpX_isClean post (cc, cb, P, V, fp, sp, an, hd) := by
  subst eb
  unfold wpX_isClean
  dsimp only
  rw [nI_clamp (n := b) (by omega), eh]
  refine ⟨vp_in_nI hb (by omega), cx_cd 20 h rfl rfl (by omega) (by omega) (br_c (fun z => ?_) (fun z => ?_))⟩
  · rw [decide_eq_true z] at H; exact H
  · rw [decide_eq_false z] at H; exact H
theorem cx_ac {post : Int32 → SX → Prop} {p0 : Int32} (n b h : Nat) (en : cc = nI n) (eb : cb = nI b) (hn : n < 20) (hb : b < 4) (eh : hd b = nI h) (hh : h < n) (hB : ∀ j, j < 1344 → P j = 0 ∨ P j = 1) (hp : p0 = -1 ∨ ∃ q, q < n ∧ p0 = nI q) (A : Int32) (hA : A = (cv_bp n ||| an h) ||| (if p0 < 0 then 0 else an p0.toNatClampNeg))
    (H : post (nI n) (nI (n + 1), cb, cv_mx P (fun k => 64 * 20 + k) n 64, cv_mx V (fun k => 64 * 20 + k) n 64, upd fp n (nI h), upd sp n p0, upd an n A, upd hd b (nI n))) : wpX_addCommit post (cc, cb, P, V, fp, sp, an, hd) p0 := by
  subst en eb
  unfold wpX_addCommit
  dsimp only
  rw [nI_clamp (n := b) (by omega), eh]
  have i20 := vp_in_nI hn (N := 20) (by omega)
  refine ⟨vp_in_nI hb (by omega), nm_e (cx_cm 20 n rfl rfl (by omega) (by omega) (by omega) hB ?_)⟩
  dsimp only
  rw [nI_clamp (n := n) (by omega), nI_clamp (n := h) (by omega)]
  refine ⟨i20, nm_e ⟨i20, nm_e ⟨vp_in_nI (by omega) (by omega), i20, nm_e (br_c (fun z => ?_) (fun z => ?_))⟩⟩⟩
  · subst z
    rw [if_pos (by decide), cv_or0] at hA
    subst hA
    unfold wX_addCommit_72
    rw [nI_clamp (n := b) (by omega)]
    exact ⟨vp_in_nI hb (by omega), nm_e (nm_r (nI_1 n) H)⟩
  · rcases hp with hp | ⟨q, hq, rfl⟩
    · exact absurd hp z
    · rw [if_neg (nI_pos (by omega)), nI_clamp (n := q) (by omega)] at hA
      rw [nI_clamp (n := q) (by omega)]
      refine ⟨i20, vp_in_nI (by omega) (by omega), i20, nm_r (e' := upd an n A) ?_ ?_⟩
      · rw [pk_us, pk_un (by omega), hA]
        funext j
        by_cases hj : j = n
        · subst hj
          rw [pk_us, pk_us]
          rfl
        · rw [pk_un hj, pk_un hj, pk_un hj]
      · unfold wX_addCommit_72
        rw [nI_clamp (n := b) (by omega)]
        exact ⟨vp_in_nI hb (by omega), nm_e (nm_r (nI_1 n) H)⟩
end
end
section
theorem cv_cz (i : Nat) : (1344 : Int32) + nI i = nI (64 * 21 + i) := nI_add 1344 i
theorem cv_cw (i : Nat) : (1280 : Int32) + nI i = nI (64 * 20 + i) := nI_add 1280 i
section
variable {ct nw : Int32} {T W fs sc hs : Nat → Int32}
theorem cy_cpl {post : SY → Prop} {x1 x2 : Int32} (f t : Nat) (e1 : x1 = nI f) (e2 : x2 = nI t) (hf : f < 22) (ht : t < 22) (hft : f ≠ t) (hb : ∀ k, k < 64 → T (64 * f + k) = 0 ∨ T (64 * f + k) = 1) (h : post (ct, nw, cv_mx T (fun k => 64 * f + k) t 64, cv_mx W (fun k => 64 * f + k) t 64, fs, sc, hs)) : ∀ d i, i + d = 64 → wY_copy_2 post x1 x2 ct nw (d + 1) (nI i) (cv_mx T (fun k => 64 * f + k) t i) (cv_mx W (fun k => 64 * f + k) t i) fs sc hs := by
  subst e1 e2
  intro d
  induction d with
  | zero =>
    intro i hi
    obtain rfl : i = 64 := by omega
    exact br_t cv_e64 h
  | succ d ih =>
    intro i hi
    have hi' : i < 64 := by omega
    have ho : 64 * f + i < 64 * t ∨ 64 * t + 64 ≤ 64 * f + i := by omega
    have i1 := vp_in_nI (n := 64 * f + i) (N := 1408) (by omega) (by omega)
    have i2 := vp_in_nI (n := 64 * t + i) (N := 1408) (by omega) (by omega)
    refine br_f (cv_64 hi') ?_
    rw [cv_cy f i, cv_cy t i, nI_clamp (n := 64 * f + i) (by omega), nI_clamp (n := 64 * t + i) (by omega), cv_nb (by rw [cv_mx_o (by omega)]; exact hb i hi')]
    rw [cv_mx_c (g := fun k => 64 * f + k) hi' rfl ho, cv_mx_c (g := fun k => 64 * f + k) hi' rfl ho]
    exact ⟨i1, i2, nm_e ⟨i1, i2, nm_e (nm_r (nI_1 i) (ih (i + 1) (by omega)))⟩⟩
theorem cy_cp {post : SY → Prop} {p0 p1 : Int32} (f t : Nat) (e1 : p0 = nI f) (e2 : p1 = nI t) (hf : f < 22) (ht : t < 22) (hft : f ≠ t) (hb : ∀ k, k < 64 → T (64 * f + k) = 0 ∨ T (64 * f + k) = 1) (h : post (ct, nw, cv_mx T (fun k => 64 * f + k) t 64, cv_mx W (fun k => 64 * f + k) t 64, fs, sc, hs)) : wpY_copy post (ct, nw, T, W, fs, sc, hs) p0 p1 := by
  have z := cy_cpl f t e1 e2 hf ht hft hb h 64 0 rfl
  rw [cv_mx_0, cv_mx_0] at z
  exact ⟨65, z⟩
theorem cy_lnl {post : Int32 → Prop} : ∀ d (s x3 : Int32), x3 = nI d + (-1) → d ≤ 20 → post (cv_ln fs sc d s) → wY_line_6 post ct nw T W fs sc hs (d + 1) s x3 := by
  intro d
  induction d with
  | zero =>
    intro s x3 e _ h
    subst e
    exact br_t (by decide) h
  | succ d ih =>
    intro s x3 e hd h
    rw [pk_m1] at e
    subst e
    have i1 := vp_in_nI (n := d) (N := 20) (by omega) (by omega)
    have h' : post (cv_ln fs sc d (cv_st fs sc d s)) := h
    unfold cv_st at h'
    have fin : ∀ s', post (cv_ln fs sc d (cv_o2 (sc d) s')) → wY_line_39 post (wY_line_6 post ct nw T W fs sc hs (d + 1)) s' (nI d) ct nw T W fs sc hs := by
      intro s' h
      unfold wY_line_39
      rw [nI_clamp (n := d) (by omega)]
      unfold cv_o2 at h
      refine ⟨i1, br_c (fun z => ?_) (fun z => ⟨i1, ?_⟩)⟩
      · rw [if_pos z] at h
        exact nm_e (ih s' _ rfl (by omega) h)
      · rw [if_neg z] at h
        exact nm_e (nm_e (ih _ _ rfl (by omega) h))
    refine br_f (nI_pos (by omega)) (br_c (fun z => ?_) (fun z => ?_))
    · rw [if_pos z] at h'
      rw [nI_clamp (n := d) (by omega)]
      refine ⟨i1, br_c (fun y => ?_) (fun y => ⟨i1, nm_e ?_⟩)⟩
      · refine fin s ?_
        rw [cv_o2.eq_1 (fs d) s, if_pos y] at h'
        exact h'
      · refine fin _ ?_
        rw [cv_o2.eq_1 (fs d) s, if_neg y] at h'
        exact h'
    · rw [if_neg z] at h'
      exact nm_e (ih s _ rfl (by omega) h')
theorem cy_ln {post : Int32 → Prop} {p0 : Int32} (c : Nat) (e : p0 = nI c) (hc : c < 20) (h : post (cv_line fs sc c)) : wpY_line post (ct, nw, T, W, fs, sc, hs) p0 := by
  subst e
  unfold wpY_line
  exact nm_e ⟨c + 2, cy_lnl (c + 1) _ _ (pk_m1 c).symm (by omega) h⟩
theorem cy_shl {post : Int32 → Prop} (m : Int32) (h : post (nI (cv_gc m 20))) : ∀ d i, i + d = 20 → wY_shared_25 post m ct nw T W fs sc hs (d + 1) (nI (cv_gc m i)) (nI i) := by
  intro d
  induction d with
  | zero =>
    intro i hi
    obtain rfl : i = 20 := by omega
    exact br_t cv_e20 h
  | succ d ih =>
    intro i hi
    have hi' : i < 20 := by omega
    have z := ih (i + 1) (by omega)
    refine br_f (cv_20 hi') (br_c (fun e => ?_) (fun e => ?_))
    · rw [cv_gc, if_pos e] at z
      exact nm_r (nI_1 i) z
    · rw [cv_gc, if_neg e] at z
      exact nm_r (nI_1 i) z
theorem cy_sh {post : Int32 → Prop} {p0 p1 : Int32} (a b : Nat) (e1 : p0 = nI a) (e2 : p1 = nI b) (ha : a < 20) (hb : b < 20) (h : post (nI (cv_gc (cv_line fs sc a &&& cv_line fs sc b) 20))) : wpY_shared post (ct, nw, T, W, fs, sc, hs) p0 p1 := by
  unfold wpY_shared
  exact cy_ln a e1 ha (cy_ln b e2 hb (nm_e ⟨21, cy_shl _ h 20 0 rfl⟩))
theorem cy_mk {post : Int32 → SY → Prop} {p0 p1 : Int32} (n b : Nat) (en : ct = nI n) (eb : nw = nI b) (hn : n < 20) (hb : b < 4) (hB : ∀ k, k < 64 → T (64 * 20 + k) = 0 ∨ T (64 * 20 + k) = 1)
    (H : post (nI n) (nI (n + 1), nw, cv_mx T (fun k => 64 * 20 + k) n 64, cv_mx W (fun k => 64 * 20 + k) n 64, upd fs n p0, upd sc n p1, upd hs b (nI n))) : wpY_make post (ct, nw, T, W, fs, sc, hs) p0 p1 := by
  subst en eb
  unfold wpY_make
  dsimp only
  have i20 := vp_in_nI hn (N := 20) (by omega)
  refine br_t (nI_le (b := 19) (by omega) (by omega)) (cy_cp 20 n rfl rfl (by omega) (by omega) (by omega) hB ?_)
  dsimp only
  rw [nI_clamp (n := n) (by omega), nI_clamp (n := b) (by omega)]
  exact ⟨i20, nm_e ⟨i20, nm_e (nm_r (nI_1 n) ⟨vp_in_nI hb (by omega), nm_e H⟩)⟩⟩
end
section
variable {ct nw : Int32} {P V T W fs sc hs : Nat → Int32}
theorem cy_ag (R : cv_R P V T W) {post : Int32 → Prop} {p0 p1 p2 : Int32} (a b k : Nat) (e0 : p0 = nI a) (e1 : p1 = nI b) (e2 : p2 = nI k) (ha : a < 21) (hb : b < 21) (hk : k < 64) (h : post (cv_i (cv_ag P V a b k))) : wpY_agree post (ct, nw, T, W, fs, sc, hs) p0 p1 p2 := by
  subst e0 e1 e2
  unfold wpY_agree
  rw [cv_cy a k, cv_cy b k, nI_clamp (n := 64 * a + k) (by omega), nI_clamp (n := 64 * b + k) (by omega)]
  have i := vp_in_nI (n := 64 * a + k) (N := 1408) (by omega) (by omega)
  have j := vp_in_nI (n := 64 * b + k) (N := 1408) (by omega) (by omega)
  obtain ⟨t1, -, v1, w1⟩ := R (64 * a + k) (by omega)
  obtain ⟨t2, -, v2, w2⟩ := R (64 * b + k) (by omega)
  unfold cv_ag at h
  refine ⟨i, j, br_c (fun e => ⟨i, br_c (fun z => ?_) (fun z => ⟨i, j, br_c (fun e' => ?_) (fun e' => ?_)⟩)⟩) (fun e => ?_)⟩
  · rw [t1, t2] at e
    rw [t1] at z
    rw [decide_eq_true e, decide_eq_true ((v1 z).trans (v2 (e.symm.trans z)).symm)] at h; exact h
  · rw [t1, t2] at e
    rw [t1] at z
    rw [w1 z, w2 (fun y => z (e.trans y))] at e'
    rw [decide_eq_true e, decide_eq_true e'] at h; exact h
  · rw [t1, t2] at e
    rw [t1] at z
    rw [w1 z, w2 (fun y => z (e.trans y))] at e'
    rw [decide_eq_true e, decide_eq_false e'] at h; exact h
  · rw [t1, t2] at e
    rw [decide_eq_false e] at h; exact h
theorem cy_cf (R : cv_R P V T W) {post : Int32 → Prop} {p0 p1 p2 p3 : Int32} (o a b k : Nat) (e0 : p0 = nI o) (e1 : p1 = nI a) (e2 : p2 = nI b) (e3 : p3 = nI k) (ho : o < 21) (ha : a < 21) (hb : b < 21) (hk : k < 64) (h : post (cv_i (cv_cf P V o a b k))) : wpY_clash post (ct, nw, T, W, fs, sc, hs) p0 p1 p2 p3 := by
  unfold wpY_clash
  unfold cv_cf at h
  refine cy_ag R a b k e1 e2 e3 ha hb hk (cv_br (fun x => cy_ag R a o k e1 e0 e3 ha ho hk (cv_br (fun y => cy_ag R b o k e2 e0 e3 hb ho hk (cv_br (fun z => ?_) (fun z => ?_))) (fun y => ?_))) (fun x => ?_))
  · rw [x, y, z] at h; exact h
  · rw [x, y, z] at h; exact h
  · rw [x, y] at h; exact h
  · rw [x] at h; exact h
theorem cy_apl (R : cv_R P V T W) {post : Int32 → Prop} {x1 x2 : Int32} (a b : Nat) (e1 : x1 = nI a) (e2 : x2 = nI b) (ha : a < 21) (hb : b < 21) (h : post (cv_ct (fun k => !cv_ag P V a b k) 64)) : ∀ d i, i + d = 64 → wY_apart_5 post x1 x2 ct nw T W fs sc hs (d + 1) (cv_ct (fun k => !cv_ag P V a b k) i) (nI i) := by
  intro d
  induction d with
  | zero =>
    intro i hi
    obtain rfl : i = 64 := by omega
    exact br_t cv_e64 h
  | succ d ih =>
    intro i hi
    have hi' : i < 64 := by omega
    refine br_f (cv_64 hi') (cy_ag R a b i e1 e2 rfl ha hb hi' (cv_br (fun z => ?_) (fun z => ?_)))
    · exact nm_r (cv_ct_t (q := fun k => !cv_ag P V a b k) (by rw [z]; rfl)) (nm_r (nI_1 i) (ih (i + 1) (by omega)))
    · rw [cv_ct_f (q := fun k => !cv_ag P V a b k) (by rw [z]; rfl)]
      exact nm_r (nI_1 i) (ih (i + 1) (by omega))
theorem cy_ap (R : cv_R P V T W) {post : Int32 → Prop} {p0 p1 : Int32} (a b : Nat) (e1 : p0 = nI a) (e2 : p1 = nI b) (ha : a < 21) (hb : b < 21) (h : post (cv_ct (fun k => !cv_ag P V a b k) 64)) : wpY_apart post (ct, nw, T, W, fs, sc, hs) p0 p1 := ⟨65, cy_apl R a b e1 e2 ha hb h 64 0 rfl⟩
theorem cy_ccl (R : cv_R P V T W) {post : Int32 → Prop} {x1 x2 x3 : Int32} (o a b : Nat) (e1 : x1 = nI o) (e2 : x2 = nI a) (e3 : x3 = nI b) (ho : o < 21) (ha : a < 21) (hb : b < 21) (h : post (cv_ct (cv_cf P V o a b) 64)) : ∀ d i, i + d = 64 → wY_clashes_6 post x1 x2 x3 ct nw T W fs sc hs (d + 1) (cv_ct (cv_cf P V o a b) i) (nI i) := by
  intro d
  induction d with
  | zero =>
    intro i hi
    obtain rfl : i = 64 := by omega
    exact br_t cv_e64 h
  | succ d ih =>
    intro i hi
    have hi' : i < 64 := by omega
    refine br_f (cv_64 hi') (cy_cf R o a b i e1 e2 e3 rfl ho ha hb hi' (cv_br (fun z => ?_) (fun z => ?_)))
    · rw [cv_ct_f z]
      exact nm_r (nI_1 i) (ih (i + 1) (by omega))
    · exact nm_r (cv_ct_t z) (nm_r (nI_1 i) (ih (i + 1) (by omega)))
theorem cy_cc (R : cv_R P V T W) {post : Int32 → Prop} {p0 p1 p2 : Int32} (o a b : Nat) (e1 : p0 = nI o) (e2 : p1 = nI a) (e3 : p2 = nI b) (ho : o < 21) (ha : a < 21) (hb : b < 21) (h : post (cv_ct (cv_cf P V o a b) 64)) : wpY_clashes post (ct, nw, T, W, fs, sc, hs) p0 p1 p2 := ⟨65, cy_ccl R o a b e1 e2 e3 ho ha hb h 64 0 rfl⟩
theorem cy_cl (R : cv_R P V T W) {post : Int32 → Prop} (b h : Nat) (eb : nw = nI b) (hb : b < 4) (eh : hs b = nI h) (hh : h < 20) (H : post (cv_i (decide (cv_ct (fun k => !cv_ag P V 20 h k) 64 = 0)))) : wpY_isClean post (ct, nw, T, W, fs, sc, hs) := by
  subst eb
  unfold wpY_isClean wpY_mine
  dsimp only
  rw [nI_clamp (n := b) (by omega), eh]
  refine ⟨vp_in_nI hb (by omega), cy_ap R 20 h rfl rfl (by omega) (by omega) (br_c (fun z => ?_) (fun z => ?_))⟩
  · rw [decide_eq_true z] at H; exact H
  · rw [decide_eq_false z] at H; exact H
theorem cy_sw (R : cv_R P V T W) {post : Int32 → SY → Prop} {p0 : Int32} (c : Nat) (e : p0 = nI c) (hc : c < 20) (h : post (cv_ct (fun k => !cv_ag P V 20 c k) 64) (ct, nw, cv_mx T (fun k => 64 * c + k) 20 64, cv_mx W (fun k => 64 * c + k) 20 64, fs, sc, hs)) : wpY_show post (ct, nw, T, W, fs, sc, hs) p0 := by
  unfold wpY_show
  exact cy_ap R 20 c rfl e (by omega) (by omega) (cy_cp c 20 e rfl (by omega) (by omega) (by omega) (fun k hk => cv_R_t R (by omega)) h)
/-- the cell that the reference's merge takes a key from -/
def cy_g (P V : Nat → Int32) (o a b : Nat) (s : Int32) (k : Nat) : Nat := match (!cv_ag P V a b k && cv_ag P V a o k) || (cv_cf P V o a b k && decide (s = 1)) with
  | true => 64 * b + k
  | false => 64 * a + k
theorem cy_g_lt {P V : Nat → Int32} {o a b : Nat} {s : Int32} {k : Nat} (ha : a < 20) (hb : b < 20) (hk : k < 64) : cy_g P V o a b s k < 1280 := by
  unfold cy_g
  generalize ((!cv_ag P V a b k && cv_ag P V a o k) || (cv_cf P V o a b k && decide (s = 1))) = t
  cases t
  · show 64 * a + k < 1280
    omega
  · show 64 * b + k < 1280
    omega
theorem cv_g_eq {P V : Nat → Int32} (o a b : Nat) (s : Int32) (k : Nat) : P (cx_g P V o a b s k) = P (cy_g P V o a b s k) ∧ V (cx_g P V o a b s k) = V (cy_g P V o a b s k) := by
  unfold cx_g cy_g cv_cf
  cases h1 : cv_ag P V a b k
  · cases h2 : cv_ag P V a o k
    · cases h3 : cv_ag P V b o k
      · cases h4 : decide (s = 1) <;> exact ⟨rfl, rfl⟩
      · exact ⟨rfl, rfl⟩
    · exact ⟨rfl, rfl⟩
  · have h1' := h1
    unfold cv_ag at h1'
    rw [Bool.and_eq_true, decide_eq_true_iff, decide_eq_true_iff] at h1'
    cases h2 : cv_ag P V a o k
    · exact ⟨rfl, rfl⟩
    · exact ⟨h1'.1.symm, h1'.2.symm⟩
theorem cv_R_21 (R : cv_R P V T W) (g : Nat → Nat) (i : Nat) : cv_R P V (cv_mx T g 21 i) (cv_mx W g 21 i) := by
  intro j hj
  rw [cv_mx_o (by omega), cv_mx_o (by omega)]
  exact R j hj
theorem cy_bll (R : cv_R P V T W) {post : SY → Prop} {x1 x2 x3 x4 : Int32} (o a b : Nat) (e1 : x1 = nI o) (e2 : x2 = nI a) (e3 : x3 = nI b) (ho : o < 20) (ha : a < 20) (hb : b < 20) (h : post (ct, nw, cv_mx (cv_mx T (cy_g P V o a b x4) 21 64) (fun k => 64 * 21 + k) 20 64, cv_mx (cv_mx W (cy_g P V o a b x4) 21 64) (fun k => 64 * 21 + k) 20 64, fs, sc, hs)) : ∀ d i, i + d = 64 → wY_blend_3 post x1 x2 x3 x4 ct nw (d + 1) (nI i) (cv_mx T (cy_g P V o a b x4) 21 i) (cv_mx W (cy_g P V o a b x4) 21 i) fs sc hs := by
  intro d
  induction d with
  | zero =>
    intro i hi
    obtain rfl : i = 64 := by omega
    refine br_t cv_e64 (cy_cp 21 20 rfl rfl (by omega) (by omega) (by omega) (fun k hk => ?_) h)
    rw [cv_mx_i hk]
    have := cy_g_lt (P := P) (V := V) (o := o) (s := x4) ha hb hk
    exact cv_R_t R (by omega)
  | succ d ih =>
    intro i hi
    have hi' : i < 64 := by omega
    have R' := cv_R_21 R (cy_g P V o a b x4) i
    have fin : ∀ z0 c, c < 20 → z0 = nI c → cy_g P V o a b x4 i = 64 * c + i → wY_blend_67 post (wY_blend_3 post x1 x2 x3 x4 ct nw (d + 1)) x1 x2 x3 x4 (nI i) z0 ct nw (cv_mx T (cy_g P V o a b x4) 21 i) (cv_mx W (cy_g P V o a b x4) 21 i) fs sc hs := by
      intro z0 c hc ez eg
      subst ez
      unfold wY_blend_67
      have i1 := vp_in_nI (n := 64 * c + i) (N := 1408) (by omega) (by omega)
      have i2 := vp_in_nI (n := 64 * 21 + i) (N := 1408) (by omega) (by omega)
      rw [cv_cy c i, cv_cz i, nI_clamp (n := 64 * c + i) (by omega), nI_clamp (n := 64 * 21 + i) (by omega), cv_nb (by rw [cv_mx_o (by omega)]; exact cv_R_t R (by omega))]
      rw [cv_mx_c hi' eg (by omega), cv_mx_c hi' eg (by omega)]
      exact ⟨i1, i2, nm_e ⟨i1, i2, nm_e (nm_r (nI_1 i) (ih (i + 1) (by omega)))⟩⟩
    have f50 : cy_g P V o a b x4 i = 64 * b + i → wY_blend_50 post (wY_blend_3 post x1 x2 x3 x4 ct nw (d + 1)) x1 x2 x3 x4 (nI i) ct nw (cv_mx T (cy_g P V o a b x4) 21 i) (cv_mx W (cy_g P V o a b x4) 21 i) fs sc hs := by
      intro e
      unfold wY_blend_50 wY_blend_55
      exact br_f (by decide) (fin _ b hb e3 e)
    have f54 : cy_g P V o a b x4 i = 64 * a + i → wY_blend_54 post (wY_blend_3 post x1 x2 x3 x4 ct nw (d + 1)) x1 x2 x3 x4 (nI i) ct nw (cv_mx T (cy_g P V o a b x4) 21 i) (cv_mx W (cy_g P V o a b x4) 21 i) fs sc hs := by
      intro e
      unfold wY_blend_54 wY_blend_55
      exact br_t rfl (fin _ a ha e2 e)
    have f32 : (!cv_ag P V a b i && cv_ag P V a o i) = false → wY_blend_32 post (wY_blend_3 post x1 x2 x3 x4 ct nw (d + 1)) x1 x2 x3 x4 (nI i) ct nw (cv_mx T (cy_g P V o a b x4) 21 i) (cv_mx W (cy_g P V o a b x4) 21 i) fs sc hs := by
      intro e
      unfold wY_blend_32
      refine cy_cf R' o a b i e1 e2 e3 rfl (by omega) (by omega) (by omega) hi' (cv_br (fun z => f54 ?_) (fun z => br_c (fun s1 => f50 ?_) (fun s1 => f54 ?_)))
      · unfold cy_g; rw [e, z]; rfl
      · unfold cy_g; rw [e, z, decide_eq_true s1]; rfl
      · unfold cy_g; rw [e, z, decide_eq_false s1]; rfl
    refine br_f (cv_64 hi') (cy_ag R' a b i e2 e3 rfl (by omega) (by omega) hi' (cv_br (fun z => cy_ag R' a o i e2 e1 rfl (by omega) (by omega) hi' (cv_br (fun y => f32 ?_) (fun y => f50 ?_))) (fun z => f32 ?_)))
    · rw [z, y]; rfl
    · unfold cy_g; rw [z, y]; rfl
    · rw [z]; rfl
theorem cy_bl (R : cv_R P V T W) {post : SY → Prop} {p0 p1 p2 p3 : Int32} (o a b : Nat) (e1 : p0 = nI o) (e2 : p1 = nI a) (e3 : p2 = nI b) (ho : o < 20) (ha : a < 20) (hb : b < 20) (h : post (ct, nw, cv_mx (cv_mx T (cy_g P V o a b p3) 21 64) (fun k => 64 * 21 + k) 20 64, cv_mx (cv_mx W (cy_g P V o a b p3) 21 64) (fun k => 64 * 21 + k) 20 64, fs, sc, hs)) : wpY_blend post (ct, nw, T, W, fs, sc, hs) p0 p1 p2 p3 := by
  have z := cy_bll R o a b e1 e2 e3 ho ha hb h 64 0 rfl
  rw [cv_mx_0, cv_mx_0] at z
  exact ⟨65, z⟩
end
end
section
def cv_par (f : Nat → Int32) (c : Nat) : Prop := f c = -1 ∨ ∃ p, p < c ∧ f c = nI p
def cv_I (n b : Nat) (P V T W fp sp an hd : Nat → Int32) : Prop :=
  (1 ≤ n ∧ n ≤ 20) ∧ b < 4 ∧ cv_R P V T W ∧ (∀ j, j < 4 → ∃ h, h < n ∧ hd j = nI h) ∧ (∀ c, c < n → cv_par fp c ∧ cv_par sp c) ∧ (∀ c, c < n → an c = cv_line fp sp c)
/-- counts, branches, parents and heads are the same on both sides; the cells are related by cv_R; the component's ancestry is the reference's line -/
def i_Rel (k : Nat) (u : SX) (v : SY) : Prop := ∃ (n b : Nat) (P V T W fp sp an hd : Nat → Int32), u = (nI n, nI b, P, V, fp, sp, an, hd) ∧ v = (nI n, nI b, T, W, fp, sp, hd) ∧ cv_I n b P V T W fp sp an hd
theorem i_up {k : Nat} {u : SX} {v : SY} (h : i_Rel k u v) : i_Rel (k + 4) u v := h
theorem cv_J {k n b : Nat} {P V T W fp sp an hd : Nat → Int32} (I : cv_I n b P V T W fp sp an hd) : i_Rel k (nI n, nI b, P, V, fp, sp, an, hd) (nI n, nI b, T, W, fp, sp, hd) := ⟨n, b, P, V, T, W, fp, sp, an, hd, rfl, rfl, I⟩
theorem cv_I_R {n b : Nat} {P V T W P' V' T' W' fp sp an hd : Nat → Int32} (I : cv_I n b P V T W fp sp an hd) (R : cv_R P' V' T' W') : cv_I n b P' V' T' W' fp sp an hd := ⟨I.1, I.2.1, R, I.2.2.2⟩
theorem cv_I_add {n b : Nat} {P V T W fp sp an hd : Nat → Int32} (I : cv_I n b P V T W fp sp an hd) (hn : n < 20) {h : Nat} (hh : h < n) {p0 : Int32} (hp : p0 = -1 ∨ ∃ q, q < n ∧ p0 = nI q) :
    cv_I (n + 1) b (cv_mx P (fun k => 64 * 20 + k) n 64) (cv_mx V (fun k => 64 * 20 + k) n 64) (cv_mx T (fun k => 64 * 20 + k) n 64) (cv_mx W (fun k => 64 * 20 + k) n 64) (upd fp n (nI h)) (upd sp n p0) (upd an n ((cv_bp n ||| an h) ||| (if p0 < 0 then 0 else an p0.toNatClampNeg))) (upd hd b (nI n)) := by
  obtain ⟨hn1, hb, R, hH, hP, hA⟩ := I
  have cg : ∀ c, c < n → cv_line (upd fp n (nI h)) (upd sp n p0) c = cv_line fp sp c := fun c hc => cv_line_cg c (fun d hd => ⟨pk_un (by omega), pk_un (by omega)⟩)
  refine ⟨by omega, hb, cv_R_cp R _ n (fun k hk => by omega), fun j hj => ?_, fun c hc => ?_, fun c hc => ?_⟩
  · by_cases e : j = b
    · subst e
      exact ⟨n, by omega, pk_us⟩
    · obtain ⟨x, hx, ex⟩ := hH j hj
      exact ⟨x, by omega, by rw [pk_un e]; exact ex⟩
  · by_cases e : c = n
    · subst e
      unfold cv_par
      rw [pk_us, pk_us]
      exact ⟨Or.inr ⟨h, hh, rfl⟩, hp⟩
    · unfold cv_par
      rw [pk_un e, pk_un e]
      exact hP c (by omega)
  · by_cases e : c = n
    · subst e
      rw [pk_us, cv_line_new _ _ (by omega) hh pk_us, cg h hh, hA h hh, pk_us]
      rcases hp with rfl | ⟨q, hq, rfl⟩
      · rw [if_pos (by decide), cv_ln_m1 _ _ (by omega) (by decide)]
      · rw [if_neg (nI_pos (by omega)), nI_clamp (n := q) (by omega), cv_pmN (by omega), cv_ln_sk _ _ c (by omega) hq, cg q hq, hA q hq]
    · rw [pk_un e, cg c (by omega)]
      exact hA c (by omega)
theorem i_vc0 : wpX_init (fun u => wpY_init (fun v => i_Rel 0 u v)) := by
  refine nm_e (nm_e (nm_e (nm_e (nm_e ?_))))
  refine cv_J (n := 1) (b := 0) ⟨by omega, by omega, fun j _ => ⟨rfl, Or.inl rfl, fun _ => rfl, fun _ => rfl⟩, fun j _ => ⟨0, by omega, rfl⟩, fun c hc => ?_, fun c hc => ?_⟩
  · obtain rfl : c = 0 := by omega
    exact ⟨Or.inl rfl, Or.inl rfl⟩
  · obtain rfl : c = 0 := by omega
    rw [cv_line_0 _ _ (by rw [pk_us]; decide) (by rw [pk_us]; decide), pk_us]
theorem cv_ix (x : Int32) (n : Nat) (hn : n < 2 ^ 31) : (x < 0 ∨ nI n ≤ x) ∨ ∃ j : Nat, j < n ∧ x = nI j := by
  rcases pk_ix x hn with h | h | h
  · exact Or.inl (Or.inl h)
  · exact Or.inl (Or.inr h)
  · exact Or.inr h
section
variable {cc cb : Int32} {P V fp sp an hd : Nat → Int32} {post : Int32 → Prop} {x : Int32}
theorem cx_kb (h : x < 0 ∨ nI 64 ≤ x) (H : post 0) : wpX_isKey post (cc, cb, P, V, fp, sp, an, hd) x := br_c (fun _ => H) (fun a => br_t (h.resolve_left a) H)
theorem cx_ko {j : Nat} (e : x = nI j) (hj : j < 64) (H : post 1) : wpX_isKey post (cc, cb, P, V, fp, sp, an, hd) x := by
  subst e
  exact br_f (nI_pos (by omega)) (br_f (cv_64 hj) H)
theorem cx_bb (h : x < 0 ∨ nI 4 ≤ x) (H : post 0) : wpX_isBranch post (cc, cb, P, V, fp, sp, an, hd) x := br_c (fun _ => H) (fun a => br_t (h.resolve_left a) H)
theorem cx_bo {j : Nat} (e : x = nI j) (hj : j < 4) (H : post 1) : wpX_isBranch post (cc, cb, P, V, fp, sp, an, hd) x := by
  subst e
  exact br_f (nI_pos (by omega)) (br_f (nI_ge (b := 4) hj (by decide)) H)
theorem cx_mb {n : Nat} (en : cc = nI n) (h : x < 0 ∨ nI n ≤ x) (H : post 0) : wpX_isCommit post (cc, cb, P, V, fp, sp, an, hd) x := by
  subst en
  exact br_c (fun _ => H) (fun a => br_t (h.resolve_left a) H)
theorem cx_mo {n j : Nat} (en : cc = nI n) (hn : n ≤ 20) (e : x = nI j) (hj : j < n) (H : post 1) : wpX_isCommit post (cc, cb, P, V, fp, sp, an, hd) x := by
  subst e en
  exact br_f (nI_pos (by omega)) (br_f (nI_ge hj (by omega)) H)
theorem cx_sb (h : x < 0 ∨ nI 3 ≤ x) (H : post 0) : wpX_isSide post (cc, cb, P, V, fp, sp, an, hd) x := br_c (fun _ => H) (fun a => br_t (Int32.lt_of_lt_of_le (by decide) (h.resolve_left a)) H)
theorem cx_so {j : Nat} (e : x = nI j) (hj : j < 3) (H : post 1) : wpX_isSide post (cc, cb, P, V, fp, sp, an, hd) x := by
  subst e
  exact br_f (nI_pos (by omega)) (br_f (nI_nlt (b := j) (a := 2) (by omega) (by decide)) H)
theorem cx_fu {n : Nat} (en : cc = nI n) (hn : n = 20) (H : post 1) : wpX_isFull post (cc, cb, P, V, fp, sp, an, hd) := by
  subst en hn
  exact br_f (by decide) H
theorem cx_nf {n : Nat} (en : cc = nI n) (hn : n < 20) (H : post 0) : wpX_isFull post (cc, cb, P, V, fp, sp, an, hd) := by
  subst en
  exact br_t (nI_lt (b := 20) hn (by decide)) H
end
section
variable {ct nw : Int32} {T W fs sc hs : Nat → Int32} {post : Int32 → Prop} {x : Int32}
theorem cy_kb (h : x < 0 ∨ nI 64 ≤ x) (H : post 1) : wpY_badKey post (ct, nw, T, W, fs, sc, hs) x := br_c (fun _ => H) (fun a => br_f (fun z => absurd (Int32.le_trans (h.resolve_left a) z) (by decide)) H)
theorem cy_ko {j : Nat} (e : x = nI j) (hj : j < 64) (H : post 0) : wpY_badKey post (ct, nw, T, W, fs, sc, hs) x := by
  subst e
  exact br_f (nI_pos (by omega)) (br_t (nI_le (b := 63) (by omega) (by decide)) H)
theorem cy_bb (h : x < 0 ∨ nI 4 ≤ x) (H : post 1) : wpY_badBranch post (ct, nw, T, W, fs, sc, hs) x := br_c (fun _ => H) (fun a => br_f (fun z => absurd (Int32.le_trans (h.resolve_left a) z) (by decide)) H)
theorem cy_bo {j : Nat} (e : x = nI j) (hj : j < 4) (H : post 0) : wpY_badBranch post (ct, nw, T, W, fs, sc, hs) x := by
  subst e
  exact br_f (nI_pos (by omega)) (br_t (nI_le (b := 3) (by omega) (by decide)) H)
theorem cy_mb {n : Nat} (en : ct = nI n) (h : x < 0 ∨ nI n ≤ x) (H : post 1) : wpY_bad post (ct, nw, T, W, fs, sc, hs) x := by
  subst en
  exact br_c (fun _ => H) (fun a => br_t (h.resolve_left a) H)
theorem cy_mo {n j : Nat} (en : ct = nI n) (hn : n ≤ 20) (e : x = nI j) (hj : j < n) (H : post 0) : wpY_bad post (ct, nw, T, W, fs, sc, hs) x := by
  subst e en
  exact br_f (nI_pos (by omega)) (br_f (nI_ge hj (by omega)) (br_t (nI_le (b := 19) (by omega) (by decide)) H))
end
end
section
theorem cv_pN {x : Int32} {c : Nat} {f : Nat → Int32} (hc : c ≤ 20) (h : cv_par f c) (e : x = f c) : (x = -1 ∧ x < 0) ∨ (∃ p, p < c ∧ x = nI p ∧ ¬ x = -1 ∧ ¬ x < 0) := by
  subst e
  rcases h with h | ⟨p, hp, h⟩
  · rw [h]
    exact Or.inl ⟨rfl, by decide⟩
  · rw [h]
    have h0 : ¬ nI p < 0 := nI_pos (by omega)
    exact Or.inr ⟨p, hp, rfl, fun z => h0 (by rw [z]; decide), h0⟩
theorem i_vc_commits {k : Nat} {u : SX} {v : SY} (I : i_Rel k u v) (hk : k + 4 ≤ 2048) : wpX_commits (fun r => wpY_commits (fun r' => r' = r ∧ i_Rel (k + 4) u v) v) u := by
  have J := i_up I
  obtain ⟨n, b, P, V, T, W, fp, sp, an, hd, rfl, rfl, I⟩ := I
  exact ⟨rfl, J⟩
theorem i_vc_current {k : Nat} {u : SX} {v : SY} (I : i_Rel k u v) (hk : k + 4 ≤ 2048) : wpX_current (fun r => wpY_current (fun r' => r' = r ∧ i_Rel (k + 4) u v) v) u := by
  have J := i_up I
  obtain ⟨n, b, P, V, T, W, fp, sp, an, hd, rfl, rfl, I⟩ := I
  exact ⟨rfl, J⟩
theorem i_vc_head {k : Nat} {u : SX} {v : SY} (I : i_Rel k u v) (hk : k + 4 ≤ 2048) (v1 : Int32) : wpX_head (fun r => wpY_head (fun r' => r' = r ∧ i_Rel (k + 4) u v) v v1) u v1 := by
  have J := i_up I
  obtain ⟨n, b, P, V, T, W, fp, sp, an, hd, rfl, rfl, I⟩ := I
  unfold wpX_head wpY_head
  rcases cv_ix v1 4 (by omega) with h | ⟨j, hj, rfl⟩
  · exact cx_bb h (br_t rfl (cy_bb h (br_f (by decide) ⟨rfl, J⟩)))
  · have i := vp_in_nI (n := j) (N := 4) hj (by omega)
    exact cx_bo rfl hj (br_f (by decide) ⟨i, cy_bo rfl hj (br_t rfl ⟨i, rfl, J⟩)⟩)
theorem cv_parX {post : Int32 → Prop} {f : Nat → Int32} {c : Nat} {cc cb : Int32} {P V fp sp an hd : Nat → Int32} (hc : c ≤ 20) (h : cv_par f c) : ∃ r, (∀ post : Int32 → Prop, post r → wX_parent_29 post (f c) cc cb P V fp sp an hd) ∧ (∀ (ct nw : Int32) (T W fs sc hs : Nat → Int32) (post : Int32 → Prop), post r → wY_parent_29 post (f c) ct nw T W fs sc hs) := by
  rcases cv_pN hc h rfl with ⟨e, e'⟩ | ⟨p, hp, e, e1, e2⟩
  · exact ⟨-2, fun post H => br_t e H, fun _ _ _ _ _ _ _ post H => br_f (Int32.not_le.mpr e') H⟩
  · exact ⟨f c, fun post H => br_f e1 H, fun _ _ _ _ _ _ _ post H => br_t (Int32.not_lt.mp e2) H⟩
theorem i_vc_parent {k : Nat} {u : SX} {v : SY} (I : i_Rel k u v) (hk : k + 4 ≤ 2048) (v1 : Int32) (v2 : Int32) : wpX_parent (fun r => wpY_parent (fun r' => r' = r ∧ i_Rel (k + 4) u v) v v1 v2) u v1 v2 := by
  have J := i_up I
  obtain ⟨n, b, P, V, T, W, fp, sp, an, hd, rfl, rfl, ⟨hn, hb, R, hH, hP, hA⟩⟩ := I
  unfold wpX_parent wpY_parent
  rcases cv_ix v1 n (by omega) with h | ⟨j, hj, rfl⟩
  · exact cx_mb rfl h (br_t rfl (cy_mb rfl h (br_f (by decide) ⟨rfl, J⟩)))
  · have i := vp_in_nI (n := j) (N := 20) (by omega) (by omega)
    refine cx_mo rfl hn.2 rfl hj (br_f (by decide) ?_)
    rw [nI_clamp (n := j) (by omega)]
    by_cases e : v2 = 0
    · obtain ⟨r, hX, hY⟩ := cv_parX (post := fun _ => True) (cc := nI n) (cb := nI b) (P := P) (V := V) (fp := fp) (sp := sp) (an := an) (hd := hd) (by omega) (hP j hj).1
      exact br_t e ⟨i, hX _ (cy_mo rfl hn.2 rfl hj (br_t rfl (br_t e ⟨i, hY _ _ _ _ _ _ _ _ ⟨rfl, J⟩⟩)))⟩
    · obtain ⟨r, hX, hY⟩ := cv_parX (post := fun _ => True) (cc := nI n) (cb := nI b) (P := P) (V := V) (fp := fp) (sp := sp) (an := an) (hd := hd) (by omega) (hP j hj).2
      exact br_f e ⟨i, hX _ (cy_mo rfl hn.2 rfl hj (br_t rfl (br_f e ⟨i, hY _ _ _ _ _ _ _ _ ⟨rfl, J⟩⟩)))⟩
theorem i_vc_clean {k : Nat} {u : SX} {v : SY} (I : i_Rel k u v) (hk : k + 4 ≤ 2048) : wpX_clean (fun r => wpY_clean (fun r' => r' = r ∧ i_Rel (k + 4) u v) v) u := by
  have J := i_up I
  obtain ⟨n, b, P, V, T, W, fp, sp, an, hd, rfl, rfl, ⟨hn, hb, R, hH, hP, hA⟩⟩ := I
  unfold wpX_clean wpY_clean
  obtain ⟨h, hh, eh⟩ := hH b hb
  refine cx_cl b h rfl hb eh (by omega) (cv_br (fun z => ?_) (fun z => ?_))
  · refine cy_cl R b h rfl hb eh (by omega) ?_
    rw [z]
    exact br_t rfl ⟨rfl, J⟩
  · refine cy_cl R b h rfl hb eh (by omega) ?_
    rw [z]
    exact br_f (by decide) ⟨rfl, J⟩
theorem i_vc_has {k : Nat} {u : SX} {v : SY} (I : i_Rel k u v) (hk : k + 4 ≤ 2048) (v1 : Int32) : wpX_has (fun r => wpY_has (fun r' => r' = r ∧ i_Rel (k + 4) u v) v v1) u v1 := by
  have J := i_up I
  obtain ⟨n, b, P, V, T, W, fp, sp, an, hd, rfl, rfl, ⟨hn, hb, R, hH, hP, hA⟩⟩ := I
  unfold wpX_has wpY_has
  rcases cv_ix v1 64 (by omega) with h | ⟨j, hj, rfl⟩
  · exact cx_kb h (br_t rfl (cy_kb h (br_f (by decide) ⟨rfl, J⟩)))
  · refine cx_ko rfl hj (br_f (by decide) (cx_pr 20 j rfl rfl (by omega) hj (cy_ko rfl hj (br_t rfl ?_))))
    rw [cv_cw j, nI_clamp (n := 64 * 20 + j) (by omega), (R (64 * 20 + j) (by omega)).1]
    refine ⟨vp_in_nI (by omega) (by omega), br_c (fun z => ?_) (fun z => ?_)⟩
    · rw [decide_eq_true z]
      exact ⟨rfl, J⟩
    · rw [decide_eq_false z]
      exact ⟨rfl, J⟩
theorem i_vc_value {k : Nat} {u : SX} {v : SY} (I : i_Rel k u v) (hk : k + 4 ≤ 2048) (v1 : Int32) : wpX_value (fun r => wpY_value (fun r' => r' = r ∧ i_Rel (k + 4) u v) v v1) u v1 := by
  have J := i_up I
  obtain ⟨n, b, P, V, T, W, fp, sp, an, hd, rfl, rfl, ⟨hn, hb, R, hH, hP, hA⟩⟩ := I
  unfold wpX_value wpY_value wpX_cellOf
  rcases cv_ix v1 64 (by omega) with h | ⟨j, hj, rfl⟩
  · exact cx_kb h (br_t rfl (cy_kb h (br_f (by decide) ⟨rfl, J⟩)))
  · refine cx_ko rfl hj (br_f (by decide) ?_)
    dsimp only
    rw [show (20 : Int32) * 64 + nI j = nI (64 * 20 + j) from cv_cx 20 j, cv_cw j, nI_clamp (n := 64 * 20 + j) (by omega)]
    obtain ⟨t, -, v0, w⟩ := R (64 * 20 + j) (by omega)
    have i := vp_in_nI (n := 64 * 20 + j) (N := 1408) (by omega) (by omega)
    refine ⟨vp_in_nI (by omega) (by omega), cy_ko rfl hj (br_t rfl ⟨i, br_c (fun z => ?_) (fun z => ?_)⟩)⟩
    · rw [t] at z
      exact ⟨(v0 z).symm, J⟩
    · rw [t] at z
      exact ⟨i, w z, J⟩
theorem i_vc_hasIn {k : Nat} {u : SX} {v : SY} (I : i_Rel k u v) (hk : k + 4 ≤ 2048) (v1 : Int32) (v2 : Int32) : wpX_hasIn (fun r => wpY_hasIn (fun r' => r' = r ∧ i_Rel (k + 4) u v) v v1 v2) u v1 v2 := by
  have J := i_up I
  obtain ⟨n, b, P, V, T, W, fp, sp, an, hd, rfl, rfl, ⟨hn, hb, R, hH, hP, hA⟩⟩ := I
  unfold wpX_hasIn wpY_hasIn
  rcases cv_ix v1 n (by omega) with h | ⟨c, hc, rfl⟩
  · exact cx_mb rfl h (br_t rfl (cy_mb rfl h (br_f (by decide) ⟨rfl, J⟩)))
  · rcases cv_ix v2 64 (by omega) with h | ⟨j, hj, rfl⟩
    · exact cx_mo rfl hn.2 rfl hc (br_f (by decide) (cx_kb h (br_t rfl (cy_mo rfl hn.2 rfl hc (br_t rfl (cy_kb h (br_f (by decide) ⟨rfl, J⟩)))))))
    · refine cx_mo rfl hn.2 rfl hc (br_f (by decide) (cx_ko rfl hj (br_f (by decide) (cx_pr c j rfl rfl (by omega) hj (cy_mo rfl hn.2 rfl hc (br_t rfl (cy_ko rfl hj (br_t rfl ?_))))))))
      rw [cv_cy c j, nI_clamp (n := 64 * c + j) (by omega), (R (64 * c + j) (by omega)).1]
      refine ⟨vp_in_nI (by omega) (by omega), br_c (fun z => ?_) (fun z => ?_)⟩
      · rw [decide_eq_true z]
        exact ⟨rfl, J⟩
      · rw [decide_eq_false z]
        exact ⟨rfl, J⟩
theorem i_vc_valueIn {k : Nat} {u : SX} {v : SY} (I : i_Rel k u v) (hk : k + 4 ≤ 2048) (v1 : Int32) (v2 : Int32) : wpX_valueIn (fun r => wpY_valueIn (fun r' => r' = r ∧ i_Rel (k + 4) u v) v v1 v2) u v1 v2 := by
  have J := i_up I
  obtain ⟨n, b, P, V, T, W, fp, sp, an, hd, rfl, rfl, ⟨hn, hb, R, hH, hP, hA⟩⟩ := I
  unfold wpX_valueIn wpY_valueIn wpX_cellOf
  rcases cv_ix v1 n (by omega) with h | ⟨c, hc, rfl⟩
  · exact cx_mb rfl h (br_t rfl (cy_mb rfl h (br_f (by decide) ⟨rfl, J⟩)))
  · rcases cv_ix v2 64 (by omega) with h | ⟨j, hj, rfl⟩
    · exact cx_mo rfl hn.2 rfl hc (br_f (by decide) (cx_kb h (br_t rfl (cy_mo rfl hn.2 rfl hc (br_t rfl (cy_kb h (br_f (by decide) ⟨rfl, J⟩)))))))
    · refine cx_mo rfl hn.2 rfl hc (br_f (by decide) (cx_ko rfl hj (br_f (by decide) ?_)))
      dsimp only
      rw [cv_cx c j, cv_cy c j, nI_clamp (n := 64 * c + j) (by omega)]
      obtain ⟨t, -, v0, w⟩ := R (64 * c + j) (by omega)
      have i := vp_in_nI (n := 64 * c + j) (N := 1408) (by omega) (by omega)
      refine ⟨vp_in_nI (by omega) (by omega), cy_mo rfl hn.2 rfl hc (br_t rfl (cy_ko rfl hj (br_t rfl ⟨i, br_c (fun z => ?_) (fun z => ?_)⟩)))⟩
      · rw [t] at z
        exact ⟨(v0 z).symm, J⟩
      · rw [t] at z
        exact ⟨i, w z, J⟩
theorem cx_szl {post : Int32 → Prop} {x1 : Int32} {cc cb : Int32} {P V fp sp an hd : Nat → Int32} (c : Nat) (e : x1 = nI c) (hc : c < 21) (h : post (cv_ct (fun k => !decide (P (64 * c + k) = 0)) 64)) : ∀ d i, i + d = 64 → wX_size_14 post x1 cc cb P V fp sp an hd (d + 1) (cv_ct (fun k => !decide (P (64 * c + k) = 0)) i) (nI i) := by
  intro d
  induction d with
  | zero =>
    intro i hi
    obtain rfl : i = 64 := by omega
    exact br_t cv_e64 h
  | succ d ih =>
    intro i hi
    have hi' : i < 64 := by omega
    refine br_f (cv_64 hi') (cx_pr c i e rfl hc hi' (nm_r (e' := cv_ct (fun k => !decide (P (64 * c + k) = 0)) (i + 1)) ?_ (nm_r (nI_1 i) (ih (i + 1) (by omega)))))
    cases z : (!decide (P (64 * c + i) = 0))
    · rw [← cv_ct_f (q := fun k => !decide (P (64 * c + k) = 0)) z]
      exact Int32.add_zero _
    · exact cv_ct_t (q := fun k => !decide (P (64 * c + k) = 0)) z
theorem cy_szl {post : Int32 → Prop} {x1 : Int32} {ct nw : Int32} {P V T W fs sc hs : Nat → Int32} (R : cv_R P V T W) (c : Nat) (e : x1 = nI c) (hc : c < 21) (h : post (cv_ct (fun k => !decide (P (64 * c + k) = 0)) 64)) : ∀ d i, i + d = 64 → wY_size_14 post x1 ct nw T W fs sc hs (d + 1) (cv_ct (fun k => !decide (P (64 * c + k) = 0)) i) (nI i) := by
  subst e
  intro d
  induction d with
  | zero =>
    intro i hi
    obtain rfl : i = 64 := by omega
    exact br_t cv_e64 h
  | succ d ih =>
    intro i hi
    have hi' : i < 64 := by omega
    refine br_f (cv_64 hi') ?_
    rw [cv_cy c i, nI_clamp (n := 64 * c + i) (by omega), (R (64 * c + i) (by omega)).1]
    refine ⟨vp_in_nI (by omega) (by omega), br_c (fun z => ?_) (fun z => ?_)⟩
    · rw [cv_ct_f (q := fun k => !decide (P (64 * c + k) = 0)) (i := i) (by rw [decide_eq_true z]; rfl)]
      exact nm_r (nI_1 i) (ih (i + 1) (by omega))
    · exact nm_r (cv_ct_t (q := fun k => !decide (P (64 * c + k) = 0)) (by rw [decide_eq_false z]; rfl)) (nm_r (nI_1 i) (ih (i + 1) (by omega)))
theorem cx_sz {post : Int32 → Prop} {x1 : Int32} {cc cb : Int32} {P V fp sp an hd : Nat → Int32} (c : Nat) (e : x1 = nI c) (hc : c < 21) (h : post (cv_ct (fun k => !decide (P (64 * c + k) = 0)) 64)) : ∃ n, wX_size_14 post x1 cc cb P V fp sp an hd n 0 0 := ⟨65, cx_szl c e hc h 64 0 rfl⟩
theorem cy_sz {post : Int32 → Prop} {x1 : Int32} {ct nw : Int32} {P V T W fs sc hs : Nat → Int32} (R : cv_R P V T W) (c : Nat) (e : x1 = nI c) (hc : c < 21) (h : post (cv_ct (fun k => !decide (P (64 * c + k) = 0)) 64)) : ∃ n, wY_size_14 post x1 ct nw T W fs sc hs n 0 0 := ⟨65, cy_szl R c e hc h 64 0 rfl⟩
theorem i_vc_size {k : Nat} {u : SX} {v : SY} (I : i_Rel k u v) (hk : k + 4 ≤ 2048) (v1 : Int32) : wpX_size (fun r => wpY_size (fun r' => r' = r ∧ i_Rel (k + 4) u v) v v1) u v1 := by
  have J := i_up I
  obtain ⟨n, b, P, V, T, W, fp, sp, an, hd, rfl, rfl, ⟨hn, hb, R, hH, hP, hA⟩⟩ := I
  unfold wpX_size wpY_size
  rcases cv_ix v1 n (by omega) with h | ⟨c, hc, rfl⟩
  · exact cx_mb rfl h (br_t rfl (cy_mb rfl h (br_f (by decide) ⟨rfl, J⟩)))
  · refine cx_mo rfl hn.2 rfl hc (br_f (by decide) (cx_sz c rfl (by omega) ?_))
    exact cy_mo rfl hn.2 rfl hc (br_t rfl (cy_sz R c rfl (by omega) ⟨rfl, J⟩))
end
section
theorem cv_nd {cc cb ct nw x1 x2 : Int32} {P V fp sp an hd T W fs sc hs : Nat → Int32} (R : cv_R P V T W) (a b : Nat) (e1 : x1 = nI a) (e2 : x2 = nI b) (ha : a < 21) (hb : b < 21) (x3 : Int32) : ∀ d i, i + d = 64 → ∃ r, (∀ post : Int32 → Prop, post r → wX_nextDifference_21 post x1 x2 x3 cc cb P V fp sp an hd (d + 1) (nI i)) ∧ (∀ post : Int32 → Prop, post r → wY_nextDifference_21 post x1 x2 x3 ct nw T W fs sc hs (d + 1) (nI i)) := by
  intro d
  induction d with
  | zero =>
    intro i hi
    obtain rfl : i = 64 := by omega
    exact ⟨-2, fun post H => br_t cv_e64 H, fun post H => br_t cv_e64 H⟩
  | succ d ih =>
    intro i hi
    have hi' : i < 64 := by omega
    obtain ⟨r, hX, hY⟩ := ih (i + 1) (by omega)
    by_cases h : nI i ≤ x3
    · exact ⟨r, fun post H => br_f (cv_64 hi') (br_t h (nm_r (nI_1 i) (hX post H))), fun post H => br_f (cv_64 hi') (br_t h (nm_r (nI_1 i) (hY post H)))⟩
    · cases z : cv_ag P V a b i
      · refine ⟨nI i, fun post H => br_f (cv_64 hi') (br_f h (cx_ag a b i e1 e2 rfl ha hb hi' ?_)), fun post H => br_f (cv_64 hi') (br_f h (cy_ag R a b i e1 e2 rfl ha hb hi' ?_))⟩
        · rw [z]
          exact br_t rfl H
        · rw [z]
          exact br_t rfl H
      · refine ⟨r, fun post H => br_f (cv_64 hi') (br_f h (cx_ag a b i e1 e2 rfl ha hb hi' ?_)), fun post H => br_f (cv_64 hi') (br_f h (cy_ag R a b i e1 e2 rfl ha hb hi' ?_))⟩
        · rw [z]
          exact br_f (by decide) (nm_r (nI_1 i) (hX post H))
        · rw [z]
          exact br_f (by decide) (nm_r (nI_1 i) (hY post H))
theorem i_vc_differing {k : Nat} {u : SX} {v : SY} (I : i_Rel k u v) (hk : k + 4 ≤ 2048) (v1 : Int32) (v2 : Int32) : wpX_differing (fun r => wpY_differing (fun r' => r' = r ∧ i_Rel (k + 4) u v) v v1 v2) u v1 v2 := by
  have J := i_up I
  obtain ⟨n, b, P, V, T, W, fp, sp, an, hd, rfl, rfl, ⟨hn, hb, R, hH, hP, hA⟩⟩ := I
  unfold wpX_differing wpY_differing
  rcases cv_ix v1 n (by omega) with h | ⟨a, ha, rfl⟩
  · exact cx_mb rfl h (br_t rfl (cy_mb rfl h (br_f (by decide) ⟨rfl, J⟩)))
  · rcases cv_ix v2 n (by omega) with h | ⟨c, hc, rfl⟩
    · exact cx_mo rfl hn.2 rfl ha (br_f (by decide) (cx_mb rfl h (br_t rfl (cy_mo rfl hn.2 rfl ha (br_t rfl (cy_mb rfl h (br_f (by decide) ⟨rfl, J⟩)))))))
    · exact cx_mo rfl hn.2 rfl ha (br_f (by decide) (cx_mo rfl hn.2 rfl hc (br_f (by decide) (cx_cd a c rfl rfl (by omega) (by omega) (cy_mo rfl hn.2 rfl ha (br_t rfl (cy_mo rfl hn.2 rfl hc (br_t rfl (cy_ap R a c rfl rfl (by omega) (by omega) ⟨rfl, J⟩)))))))))
theorem i_vc_nextDifference {k : Nat} {u : SX} {v : SY} (I : i_Rel k u v) (hk : k + 4 ≤ 2048) (v1 : Int32) (v2 : Int32) (v3 : Int32) : wpX_nextDifference (fun r => wpY_nextDifference (fun r' => r' = r ∧ i_Rel (k + 4) u v) v v1 v2 v3) u v1 v2 v3 := by
  have J := i_up I
  obtain ⟨n, b, P, V, T, W, fp, sp, an, hd, rfl, rfl, ⟨hn, hb, R, hH, hP, hA⟩⟩ := I
  unfold wpX_nextDifference wpY_nextDifference
  rcases cv_ix v1 n (by omega) with h | ⟨a, ha, rfl⟩
  · exact cx_mb rfl h (br_t rfl (cy_mb rfl h (br_f (by decide) ⟨rfl, J⟩)))
  · rcases cv_ix v2 n (by omega) with h | ⟨c, hc, rfl⟩
    · exact cx_mo rfl hn.2 rfl ha (br_f (by decide) (cx_mb rfl h (br_t rfl (cy_mo rfl hn.2 rfl ha (br_t rfl (cy_mb rfl h (br_f (by decide) ⟨rfl, J⟩)))))))
    · obtain ⟨r, hX, hY⟩ := cv_nd (cc := nI n) (cb := nI b) (ct := nI n) (nw := nI b) (fp := fp) (sp := sp) (an := an) (hd := hd) (fs := fp) (sc := sp) (hs := hd) R a c rfl rfl (by omega) (by omega) v3 64 0 rfl
      exact cx_mo rfl hn.2 rfl ha (br_f (by decide) (cx_mo rfl hn.2 rfl hc (br_f (by decide) (⟨65, hX _ (cy_mo rfl hn.2 rfl ha (br_t rfl (cy_mo rfl hn.2 rfl hc (br_t rfl (⟨65, hY _ ⟨rfl, J⟩⟩)))))⟩))))
theorem i_vc_base {k : Nat} {u : SX} {v : SY} (I : i_Rel k u v) (hk : k + 4 ≤ 2048) (v1 : Int32) (v2 : Int32) : wpX_base (fun r => wpY_base (fun r' => r' = r ∧ i_Rel (k + 4) u v) v v1 v2) u v1 v2 := by
  have J := i_up I
  obtain ⟨n, b, P, V, T, W, fp, sp, an, hd, rfl, rfl, ⟨hn, hb, R, hH, hP, hA⟩⟩ := I
  unfold wpX_base wpY_base
  rcases cv_ix v1 n (by omega) with h | ⟨a, ha, rfl⟩
  · exact cx_mb rfl h (br_t rfl (cy_mb rfl h (br_f (by decide) ⟨rfl, J⟩)))
  · rcases cv_ix v2 n (by omega) with h | ⟨c, hc, rfl⟩
    · exact cx_mo rfl hn.2 rfl ha (br_f (by decide) (cx_mb rfl h (br_t rfl (cy_mo rfl hn.2 rfl ha (br_t rfl (cy_mb rfl h (br_f (by decide) ⟨rfl, J⟩)))))))
    · exact cx_mo rfl hn.2 rfl ha (br_f (by decide) (cx_mo rfl hn.2 rfl hc (br_f (by decide) (cx_gc a c rfl rfl (by omega) (by omega) (cy_mo rfl hn.2 rfl ha (br_t rfl (cy_mo rfl hn.2 rfl hc (br_t rfl (cy_sh a c rfl rfl (by omega) (by omega) ⟨by rw [hA a ha, hA c hc], J⟩)))))))))
theorem i_vc_conflicts {k : Nat} {u : SX} {v : SY} (I : i_Rel k u v) (hk : k + 4 ≤ 2048) (v1 : Int32) (v2 : Int32) : wpX_conflicts (fun r => wpY_conflicts (fun r' => r' = r ∧ i_Rel (k + 4) u v) v v1 v2) u v1 v2 := by
  have J := i_up I
  obtain ⟨n, b, P, V, T, W, fp, sp, an, hd, rfl, rfl, ⟨hn, hb, R, hH, hP, hA⟩⟩ := I
  unfold wpX_conflicts wpY_conflicts
  rcases cv_ix v1 n (by omega) with h | ⟨a, ha, rfl⟩
  · exact cx_mb rfl h (br_t rfl (cy_mb rfl h (br_f (by decide) ⟨rfl, J⟩)))
  · rcases cv_ix v2 n (by omega) with h | ⟨c, hc, rfl⟩
    · exact cx_mo rfl hn.2 rfl ha (br_f (by decide) (cx_mb rfl h (br_t rfl (cy_mo rfl hn.2 rfl ha (br_t rfl (cy_mb rfl h (br_f (by decide) ⟨rfl, J⟩)))))))
    · exact cx_mo rfl hn.2 rfl ha (br_f (by decide) (cx_mo rfl hn.2 rfl hc (br_f (by decide) (cx_gc a c rfl rfl (by omega) (by omega) (cx_cc (cv_gc (an a &&& an c) 20) a c rfl rfl rfl (Nat.lt_trans (cv_gc_lt _) (by omega)) (by omega) (by omega) (cy_mo rfl hn.2 rfl ha (br_t rfl (cy_mo rfl hn.2 rfl hc (br_t rfl (cy_sh a c rfl rfl (by omega) (by omega) (by rw [← hA a ha, ← hA c hc]; exact cy_cc R (cv_gc (an a &&& an c) 20) a c rfl rfl rfl (Nat.lt_trans (cv_gc_lt _) (by omega)) (by omega) (by omega) ⟨rfl, J⟩)))))))))))
theorem cx_anl {post : Int32 → Prop} {x1 : Int32} {cc cb : Int32} {P V fp sp an hd : Nat → Int32} (c : Nat) (e : x1 = nI c) (hc : c < 20) (h : post (cv_an (an c) 20)) : ∀ d i, i + d = 20 → wX_ancestors_14 post x1 cc cb P V fp sp an hd (d + 1) (cv_an (an c) i) (nI i) := by
  subst e
  intro d
  induction d with
  | zero =>
    intro i hi
    obtain rfl : i = 20 := by omega
    exact br_t cv_e20 h
  | succ d ih =>
    intro i hi
    refine br_f (cv_20 (by omega)) ⟨vp_in_nI hc (by omega), ?_⟩
    rw [nI_clamp (n := c) (by omega)]
    exact nm_r (e' := cv_an (an c) (i + 1)) rfl (nm_r (nI_1 i) (ih (i + 1) (by omega)))
theorem cy_anl {post : Int32 → Prop} {ct nw : Int32} {T W fs sc hs : Nat → Int32} (m : Int32) (h : post (cv_an m 20)) : ∀ d i, i + d = 20 → wY_ancestors_21 post m ct nw T W fs sc hs (d + 1) (cv_an m i) (nI i) := by
  intro d
  induction d with
  | zero =>
    intro i hi
    obtain rfl : i = 20 := by omega
    exact br_t cv_e20 h
  | succ d ih =>
    intro i hi
    exact br_f (cv_20 (by omega)) (nm_r (e' := cv_an m (i + 1)) rfl (nm_r (nI_1 i) (ih (i + 1) (by omega))))
theorem cx_ans {post : Int32 → Prop} {x1 : Int32} {cc cb : Int32} {P V fp sp an hd : Nat → Int32} (c : Nat) (e : x1 = nI c) (hc : c < 20) (h : post (cv_an (an c) 20)) : ∃ n, wX_ancestors_14 post x1 cc cb P V fp sp an hd n 0 0 := ⟨21, cx_anl c e hc h 20 0 rfl⟩
theorem cy_ans {post : Int32 → Prop} {ct nw : Int32} {T W fs sc hs : Nat → Int32} (m : Int32) (h : post (cv_an m 20)) : ∃ n, wY_ancestors_21 post m ct nw T W fs sc hs n 0 0 := ⟨21, cy_anl m h 20 0 rfl⟩
theorem i_vc_ancestors {k : Nat} {u : SX} {v : SY} (I : i_Rel k u v) (hk : k + 4 ≤ 2048) (v1 : Int32) : wpX_ancestors (fun r => wpY_ancestors (fun r' => r' = r ∧ i_Rel (k + 4) u v) v v1) u v1 := by
  have J := i_up I
  obtain ⟨n, b, P, V, T, W, fp, sp, an, hd, rfl, rfl, ⟨hn, hb, R, hH, hP, hA⟩⟩ := I
  unfold wpX_ancestors wpY_ancestors
  rcases cv_ix v1 n (by omega) with h | ⟨c, hc, rfl⟩
  · exact cx_mb rfl h (br_t rfl (cy_mb rfl h (br_f (by decide) ⟨rfl, J⟩)))
  · refine cx_mo rfl hn.2 rfl hc (br_f (by decide) (cx_ans c rfl (by omega) ?_))
    refine cy_mo rfl hn.2 rfl hc (br_t rfl (cy_ln c rfl (by omega) ?_))
    rw [← hA c hc]
    exact cy_ans _ ⟨rfl, J⟩
end
section
section
variable {ct nw : Int32} {T W fs sc hs : Nat → Int32}
theorem cy_pt {post : Int32 → SY → Prop} {p0 p1 : Int32} (j : Nat) (e : p0 = nI j) (hj : j < 64) (h : post (cv_i (decide (T (64 * 20 + j) = 0))) (ct, nw, upd T (64 * 20 + j) 1, upd W (64 * 20 + j) p1, fs, sc, hs)) : wpY_put post (ct, nw, T, W, fs, sc, hs) p0 p1 := by
  subst e
  unfold wpY_put
  refine cy_ko rfl hj (br_t rfl ?_)
  rw [cv_cw j, nI_clamp (n := 64 * 20 + j) (by omega)]
  have i := vp_in_nI (n := 64 * 20 + j) (N := 1408) (by omega) (by omega)
  refine ⟨i, br_c (fun z => ?_) (fun z => ?_)⟩
  · unfold wY_put_28
    rw [cv_cw j, nI_clamp (n := 64 * 20 + j) (by omega), cv_n1]
    rw [decide_eq_true z] at h
    exact ⟨i, nm_e ⟨i, nm_e h⟩⟩
  · unfold wY_put_28
    rw [cv_cw j, nI_clamp (n := 64 * 20 + j) (by omega), cv_n1]
    rw [decide_eq_false z] at h
    exact ⟨i, nm_e ⟨i, nm_e h⟩⟩
theorem cy_mi {post : Int32 → Prop} (b h : Nat) (eb : nw = nI b) (hb : b < 4) (eh : hs b = nI h) (H : post (nI h)) : wpY_mine post (ct, nw, T, W, fs, sc, hs) := by
  subst eb
  unfold wpY_mine
  dsimp only
  rw [nI_clamp (n := b) (by omega), eh]
  exact ⟨vp_in_nI hb (by omega), H⟩
end
theorem cv_1m (t : Bool) : cv_i t = 1 - cv_i (!t) := by
  cases t <;> decide
theorem i_vc_put {k : Nat} {u : SX} {v : SY} (I : i_Rel k u v) (hk : k + 4 ≤ 2048) (v1 : Int32) (v2 : Int32) : wpX_put (fun r u' => wpY_put (fun r' v' => r' = r ∧ i_Rel (k + 4) u' v') v v1 v2) u v1 v2 := by
  obtain ⟨n, b, P, V, T, W, fp, sp, an, hd, rfl, rfl, I⟩ := I
  have R := I.2.2.1
  rcases cv_ix v1 64 (by omega) with h | ⟨j, hj, rfl⟩
  · unfold wpX_put wpY_put
    exact cx_kb h (br_t rfl (cy_kb h (br_f (by decide) ⟨rfl, cv_J I⟩)))
  · unfold wpX_put
    refine cx_ko rfl hj (br_f (by decide) (cx_pr 20 j rfl rfl (by omega) hj (cx_sw j rfl hj ?_)))
    refine cy_pt j rfl hj ⟨?_, cv_J (cv_I_R I (cv_R_put R _ _))⟩
    rw [(R (64 * 20 + j) (by omega)).1]
    exact cv_1m _
theorem i_vc_delete {k : Nat} {u : SX} {v : SY} (I : i_Rel k u v) (hk : k + 4 ≤ 2048) (v1 : Int32) : wpX_delete (fun r u' => wpY_delete (fun r' v' => r' = r ∧ i_Rel (k + 4) u' v') v v1) u v1 := by
  obtain ⟨n, b, P, V, T, W, fp, sp, an, hd, rfl, rfl, I⟩ := I
  have R := I.2.2.1
  rcases cv_ix v1 64 (by omega) with h | ⟨j, hj, rfl⟩
  · unfold wpX_delete wpY_delete
    exact cx_kb h (br_t rfl (cy_kb h (br_f (by decide) ⟨rfl, cv_J I⟩)))
  · unfold wpX_delete wpY_delete wpX_cellOf
    refine cx_ko rfl hj (br_f (by decide) (cx_pr 20 j rfl rfl (by omega) hj ?_))
    dsimp only
    have i := vp_in_nI (n := 64 * 20 + j) (N := 1344) (by omega) (by omega)
    have i' := vp_in_nI (n := 64 * 20 + j) (N := 1408) (by omega) (by omega)
    rw [show (20 : Int32) * 64 + nI j = nI (64 * 20 + j) from cv_cx 20 j, nI_clamp (n := 64 * 20 + j) (by omega), cv_n0]
    refine ⟨i, nm_e ⟨i, nm_e (cy_ko rfl hj (br_t rfl ?_))⟩⟩
    rw [cv_cw j, nI_clamp (n := 64 * 20 + j) (by omega)]
    have J := cv_J (k := k + 4) (cv_I_R I (cv_R_del R (64 * 20 + j)))
    refine ⟨i', br_c (fun z => ?_) (fun z => ?_)⟩
    · unfold wY_delete_28
      rw [cv_cw j, nI_clamp (n := 64 * 20 + j) (by omega), cv_n0]
      rw [(R (64 * 20 + j) (by omega)).1] at z
      rw [decide_eq_true z]
      exact ⟨i', nm_e ⟨rfl, J⟩⟩
    · unfold wY_delete_28
      rw [cv_cw j, nI_clamp (n := 64 * 20 + j) (by omega), cv_n0]
      rw [(R (64 * 20 + j) (by omega)).1] at z
      rw [decide_eq_false z]
      exact ⟨i', nm_e ⟨rfl, J⟩⟩
theorem i_vc_reset {k : Nat} {u : SX} {v : SY} (I : i_Rel k u v) (hk : k + 4 ≤ 2048) : wpX_reset (fun r u' => wpY_reset (fun r' v' => r' = r ∧ i_Rel (k + 4) u' v') v) u := by
  obtain ⟨n, b, P, V, T, W, fp, sp, an, hd, rfl, rfl, I⟩ := I
  have ⟨hn, hb, R, hH, hP, hA⟩ := I
  obtain ⟨h, hh, eh⟩ := hH b hb
  unfold wpX_reset wpY_reset
  dsimp only
  rw [nI_clamp (n := b) (by omega), eh]
  exact ⟨vp_in_nI hb (by omega), cx_lw h rfl (by omega) (fun j hj => cv_R_b R hj) (cy_mi b h rfl hb eh (cy_sw R h rfl (by omega) ⟨rfl, cv_J (cv_I_R I (cv_R_cp R _ 20 (fun k hk => by omega)))⟩))⟩
theorem i_vc_checkout {k : Nat} {u : SX} {v : SY} (I : i_Rel k u v) (hk : k + 4 ≤ 2048) (v1 : Int32) : wpX_checkout (fun r u' => wpY_checkout (fun r' v' => r' = r ∧ i_Rel (k + 4) u' v') v v1) u v1 := by
  obtain ⟨n, b, P, V, T, W, fp, sp, an, hd, rfl, rfl, I⟩ := I
  have ⟨hn, hb, R, hH, hP, hA⟩ := I
  unfold wpX_checkout wpY_checkout
  rcases cv_ix v1 n (by omega) with h | ⟨c, hc, rfl⟩
  · exact cx_mb rfl h (br_t rfl (cy_mb rfl h (br_f (by decide) ⟨rfl, cv_J I⟩)))
  · refine cx_mo rfl hn.2 rfl hc (br_f (by decide) (cx_lw c rfl (by omega) (fun j hj => cv_R_b R hj) ?_))
    exact cy_mo rfl hn.2 rfl hc (br_t rfl (cy_sw R c rfl (by omega) ⟨rfl, cv_J (cv_I_R I (cv_R_cp R _ 20 (fun k hk => by omega)))⟩))
theorem i_vc_change {k : Nat} {u : SX} {v : SY} (I : i_Rel k u v) (hk : k + 4 ≤ 2048) (v1 : Int32) : wpX_change (fun r u' => wpY_change (fun r' v' => r' = r ∧ i_Rel (k + 4) u' v') v v1) u v1 := by
  obtain ⟨n, b, P, V, T, W, fp, sp, an, hd, rfl, rfl, I⟩ := I
  have ⟨hn, hb, R, hH, hP, hA⟩ := I
  obtain ⟨h, hh, eh⟩ := hH b hb
  unfold wpX_change wpY_change
  rcases cv_ix v1 4 (by omega) with hv | ⟨j, hj, rfl⟩
  · exact cx_bb hv (br_t rfl (cy_bb hv (br_f (by decide) ⟨rfl, cv_J I⟩)))
  · have i := vp_in_nI (n := j) (N := 4) hj (by omega)
    obtain ⟨g, hg, eg⟩ := hH j hj
    refine cx_bo rfl hj (br_f (by decide) (cx_cl b h rfl hb eh (by omega) (cv_br (fun z => ?_) (fun z => ?_))))
    · refine cy_bo rfl hj (br_t rfl (cy_cl R b h rfl hb eh (by omega) ?_))
      rw [z]
      exact br_t rfl ⟨rfl, cv_J I⟩
    · have R' := cv_R_cp R (fun k => 64 * g + k) 20 (fun k hk => by omega)
      rw [nI_clamp (n := j) (by omega), eg]
      refine ⟨i, cx_lw g rfl (by omega) (fun j hj => cv_R_b R hj) ⟨i, ?_⟩⟩
      refine cy_bo rfl hj (br_t rfl (cy_cl R b h rfl hb eh (by omega) ?_))
      rw [z]
      exact br_f (by decide) ⟨i, cy_sw R g eg (by omega) ⟨i, rfl, cv_J ⟨hn, hj, R', hH, hP, hA⟩⟩⟩
theorem cv_I_hd {n b : Nat} {P V T W fp sp an hd : Nat → Int32} (I : cv_I n b P V T W fp sp an hd) (j : Nat) {x : Nat} (hx : x < n) : cv_I n b P V T W fp sp an (upd hd j (nI x)) := by
  obtain ⟨hn, hb, R, hH, hP, hA⟩ := I
  refine ⟨hn, hb, R, fun i hi => ?_, hP, hA⟩
  by_cases e : i = j
  · subst e
    exact ⟨x, hx, pk_us⟩
  · rw [pk_un e]
    exact hH i hi
theorem i_vc_branch {k : Nat} {u : SX} {v : SY} (I : i_Rel k u v) (hk : k + 4 ≤ 2048) (v1 : Int32) : wpX_branch (fun r u' => wpY_branch (fun r' v' => r' = r ∧ i_Rel (k + 4) u' v') v v1) u v1 := by
  obtain ⟨n, b, P, V, T, W, fp, sp, an, hd, rfl, rfl, I⟩ := I
  have ⟨hn, hb, R, hH, hP, hA⟩ := I
  obtain ⟨h, hh, eh⟩ := hH b hb
  unfold wpX_branch wpY_branch
  rcases cv_ix v1 4 (by omega) with hv | ⟨j, hj, rfl⟩
  · exact cx_bb hv (br_t rfl (cy_bb hv (br_f (by decide) ⟨rfl, cv_J I⟩)))
  · have i := vp_in_nI (n := j) (N := 4) hj (by omega)
    have ib := vp_in_nI (n := b) (N := 4) hb (by omega)
    by_cases e : nI j = nI b
    · exact cx_bo rfl hj (br_f (by decide) (br_t e (cy_bo rfl hj (br_t rfl (br_t e ⟨rfl, cv_J I⟩)))))
    · refine cx_bo rfl hj (br_f (by decide) (br_f e ?_))
      rw [nI_clamp (n := j) (by omega), nI_clamp (n := b) (by omega), eh]
      refine ⟨i, nm_e ⟨ib, i, nm_e (cy_bo rfl hj (br_t rfl (br_f e ⟨i, nm_e ⟨ib, i, nm_r (e' := upd hd j (nI h)) (by rw [nI_clamp (n := b) (by omega), eh]) ⟨rfl, cv_J (cv_I_hd I j hh)⟩⟩⟩)))⟩⟩
theorem i_vc_commit {k : Nat} {u : SX} {v : SY} (I : i_Rel k u v) (hk : k + 4 ≤ 2048) : wpX_commit (fun r u' => wpY_commit (fun r' v' => r' = r ∧ i_Rel (k + 4) u' v') v) u := by
  obtain ⟨n, b, P, V, T, W, fp, sp, an, hd, rfl, rfl, I⟩ := I
  have ⟨hn, hb, R, hH, hP, hA⟩ := I
  obtain ⟨h, hh, eh⟩ := hH b hb
  unfold wpX_commit wpY_commit
  by_cases e : n = 20
  · subst e
    refine cx_fu rfl rfl (br_f (by decide) (cy_mi b h rfl hb eh ?_))
    unfold wpY_make
    exact br_f (by decide) ⟨rfl, cv_J I⟩
  · have hn' : n < 20 := by omega
    refine cx_nf rfl hn' (br_t rfl (cx_ac n b h rfl rfl hn' hb eh hh (fun j hj => cv_R_b R hj) (Or.inl rfl) _ rfl ?_))
    exact cy_mi b h rfl hb eh (cy_mk n b rfl rfl hn' hb (fun k hk => cv_R_t R (by omega)) ⟨rfl, cv_J (cv_I_add I hn' hh (Or.inl rfl))⟩)
end
section
def cv_pI (A : Nat → Int32) (f s : Nat) (x : Nat → Int32) : Nat → Nat → Int32
  | 0 => A
  | i + 1 => upd (cv_pI A f s x i) (64 * 20 + (f + i * s)) (x i)
theorem cv_R_pI {P V T W : Nat → Int32} (R : cv_R P V T W) (f s : Nat) (x : Nat → Int32) : ∀ i, cv_R (cv_pI P f s (fun _ => 1) i) (cv_pI V f s x i) (cv_pI T f s (fun _ => 1) i) (cv_pI W f s x i)
  | 0 => R
  | i + 1 => cv_R_put (cv_R_pI R f s x i) (64 * 20 + (f + i * s)) (x i)
theorem cv_m (f s : Nat) : ∀ c, ∃ m, m ≤ c ∧ (∀ i, i < m → f + i * s < 64) ∧ (m = c ∨ 64 ≤ f + m * s)
  | 0 => ⟨0, Nat.le_refl 0, fun i hi => absurd hi (Nat.not_lt_zero i), Or.inl rfl⟩
  | c + 1 => by
    obtain ⟨m, hm, hl, h⟩ := cv_m f s c
    by_cases h64 : 64 ≤ f + m * s
    · exact ⟨m, by omega, hl, Or.inr h64⟩
    · obtain rfl := h.resolve_right h64
      refine ⟨m + 1, by omega, fun i hi => ?_, Or.inl rfl⟩
      by_cases e : i = m
      · subst e
        omega
      · exact hl i (by omega)
theorem cv_sh6 {x : Int32} (h : x < 64) : x >>> ((6 : Int32) &&& 31) < 1 := by
  rw [Int32.lt_iff_toInt_lt] at h ⊢
  rw [pk_shr x _ 6 (by decide), Int.shiftRight_eq_div_pow]
  have e1 : (64 : Int32).toInt = 64 := by decide
  have e2 : (1 : Int32).toInt = 1 := by decide
  rw [e1] at h
  rw [e2]
  omega
section
variable {cc cb ct nw : Int32} {P V fp sp an hd T W fs sc hs : Nat → Int32}
theorem cx_spl {post : Int32 → SX → Prop} (x3 : Int32) (f s c m : Nat) (h6 : s ≤ 16) (hc : c ≤ 64) (hm : m ≤ c) (hl : ∀ i, i < m → f + i * s < 64) (hf : f < 64) (hz : m = c ∨ 64 ≤ f + m * s) (h : post (nI m) (cc, cb, cv_pI P f s (fun _ => 1) m, cv_pI V f s (fun i => x3 + nI i) m, fp, sp, an, hd)) : ∀ d i, i + d = m → wX_spread_46 post x3 (nI s) (nI c) (d + 1) (nI i) (nI (f + i * s)) cc cb (cv_pI P f s (fun _ => 1) i) (cv_pI V f s (fun i => x3 + nI i) i) fp sp an hd := by
  intro d
  induction d with
  | zero =>
    intro i hi
    obtain rfl : i = m := by omega
    have hb : i * s ≤ 64 * 16 := Nat.mul_le_mul (by omega) h6
    rcases hz with hz | hz
    · subst hz
      exact br_c (fun _ => h) (fun _ => br_t (nI_le (Nat.le_refl i) (by omega)) h)
    · exact br_t (nI_le (a := 64) hz (by omega)) h
  | succ d ih =>
    intro i hi
    have hi' := hl i (by omega)
    refine br_f (cv_64 hi') (br_f (nI_ge (by omega) (by omega)) (cx_sw (f + i * s) rfl hi' (nm_r (nI_1 i) (nm_r (e' := nI (f + (i + 1) * s)) ?_ (ih (i + 1) (by omega))))))
    rw [nI_add, Nat.succ_mul, Nat.add_assoc]
theorem cx_sp {post : Int32 → SX → Prop} (x3 : Int32) (f s c m : Nat) (h6 : s ≤ 16) (hc : c ≤ 64) (hm : m ≤ c) (hl : ∀ i, i < m → f + i * s < 64) (hf : f < 64) (hz : m = c ∨ 64 ≤ f + m * s) (h : post (nI m) (cc, cb, cv_pI P f s (fun _ => 1) m, cv_pI V f s (fun i => x3 + nI i) m, fp, sp, an, hd)) : ∃ n, wX_spread_46 post x3 (nI s) (nI c) n 0 (nI f) cc cb P V fp sp an hd := by
  have z := cx_spl x3 f s c m h6 hc hm hl hf hz h m 0 (by omega)
  rw [Nat.zero_mul, Nat.add_zero] at z
  exact ⟨m + 1, z⟩
theorem cy_spd {post : Int32 → SY → Prop} (x3 : Int32) (f p m : Nat) (hp : p < 2 ^ 31) (h6 : p / 64 ≤ 16) (hm : m ≤ p % 64 + 1) (hf : f < 64) (hz : m = p % 64 + 1 ∨ 64 ≤ f + m * (p / 64)) (h : post (nI m) (ct, nw, T, W, fs, sc, hs)) : ∀ d i, i + d = p % 64 + 1 → m ≤ i → wY_spread_34 post (nI f) (nI p) x3 (d + 1) (nI m) (nI i) ct nw T W fs sc hs := by
  have e1 : nI p - nI p / 64 * 64 = nI (p % 64) := pk_rem (d := 64) hp (by omega) (by omega)
  have e2 : nI p / 64 = nI (p / 64) := pk_div (d := 64) hp (by omega) (by omega)
  intro d
  induction d with
  | zero =>
    intro i hi _
    refine ⟨by decide, ?_⟩
    rw [e1]
    exact br_t (nI_lt (by omega) (by omega)) h
  | succ d ih =>
    intro i hi hmi
    have h64 : 64 ≤ f + i * (p / 64) := by
      have := hz.resolve_left (by omega)
      have h2 : m * (p / 64) ≤ i * (p / 64) := Nat.mul_le_mul_right _ hmi
      omega
    have hb : i * (p / 64) ≤ 64 * 16 := Nat.mul_le_mul (by omega) h6
    refine ⟨by decide, ?_⟩
    rw [e1]
    refine br_f (nI_nlt (by omega) (by omega)) ⟨by decide, nm_r (e' := nI (f + i * (p / 64))) ?_ (br_t (nI_le (a := 64) h64 (by omega)) (nm_r (nI_1 i) (ih (i + 1) (by omega) (by omega))))⟩
    rw [e2, pk_mul, nI_add]
end
section
variable {ct nw : Int32} {T W fs sc hs : Nat → Int32}
theorem cy_spl {post : Int32 → SY → Prop} (x3 : Int32) (f p m : Nat) (hp : p < 2 ^ 31) (h6 : p / 64 ≤ 16) (hm : m ≤ p % 64 + 1) (hf : f < 64) (hl : ∀ i, i < m → f + i * (p / 64) < 64) (hz : m = p % 64 + 1 ∨ 64 ≤ f + m * (p / 64)) (h : post (nI m) (ct, nw, cv_pI T f (p / 64) (fun _ => 1) m, cv_pI W f (p / 64) (fun i => x3 + nI i) m, fs, sc, hs)) : ∀ d i, i + d = m → wY_spread_34 post (nI f) (nI p) x3 (d + (p % 64 + 1 - m) + 1) (nI i) (nI i) ct nw (cv_pI T f (p / 64) (fun _ => 1) i) (cv_pI W f (p / 64) (fun i => x3 + nI i) i) fs sc hs := by
  have e1 : nI p - nI p / 64 * 64 = nI (p % 64) := pk_rem (d := 64) hp (by omega) (by omega)
  have e2 : nI p / 64 = nI (p / 64) := pk_div (d := 64) hp (by omega) (by omega)
  intro d
  induction d with
  | zero =>
    intro i hi
    obtain rfl : i = m := by omega
    rw [Nat.zero_add]
    exact cy_spd x3 f p i hp h6 hm hf hz h (p % 64 + 1 - i) i (by omega) (Nat.le_refl i)
  | succ d ih =>
    intro i hi
    have hi' := hl i (by omega)
    rw [Nat.add_right_comm d 1]
    refine ⟨by decide, ?_⟩
    rw [e1]
    refine br_f (nI_nlt (by omega) (by omega)) ⟨by decide, nm_r (e' := nI (f + i * (p / 64))) ?_ (br_f (cv_64 hi') (cy_pt (f + i * (p / 64)) rfl hi' (nm_r (nI_1 i) (nm_r (nI_1 i) (ih (i + 1) (by omega))))))⟩
    rw [e2, pk_mul, nI_add]
theorem cy_sp {post : Int32 → SY → Prop} (x3 : Int32) (f p m : Nat) (hp : p < 2 ^ 31) (h6 : p / 64 ≤ 16) (hm : m ≤ p % 64 + 1) (hf : f < 64) (hl : ∀ i, i < m → f + i * (p / 64) < 64) (hz : m = p % 64 + 1 ∨ 64 ≤ f + m * (p / 64)) (h : post (nI m) (ct, nw, cv_pI T f (p / 64) (fun _ => 1) m, cv_pI W f (p / 64) (fun i => x3 + nI i) m, fs, sc, hs)) : ∃ n, wY_spread_34 post (nI f) (nI p) x3 n 0 0 ct nw T W fs sc hs := ⟨_, cy_spl x3 f p m hp h6 hm hf hl hz h m 0 (by omega)⟩
end
theorem i_vc_spread {k : Nat} {u : SX} {v : SY} (I : i_Rel k u v) (hk : k + 4 ≤ 2048) (v1 : Int32) (v2 : Int32) (v3 : Int32) : wpX_spread (fun r u' => wpY_spread (fun r' v' => r' = r ∧ i_Rel (k + 4) u' v') v v1 v2 v3) u v1 v2 v3 := by
  obtain ⟨n, b, P, V, T, W, fp, sp, an, hd, rfl, rfl, I⟩ := I
  have R := I.2.2.1
  unfold wpX_spread wpY_spread
  rcases cv_ix v1 64 (by omega) with h | ⟨f, hf, rfl⟩
  · exact cx_kb h (br_t rfl (cy_kb h (br_f (by decide) ⟨rfl, cv_J I⟩)))
  · by_cases h64 : v2 < 64
    · exact cx_ko rfl hf (br_f (by decide) (nm_e (br_t (cv_sh6 h64) (cy_ko rfl hf (br_t rfl (br_t h64 ⟨rfl, cv_J I⟩))))))
    · obtain ⟨p, hp, rfl⟩ := nI_of (x := v2) (fun z => h64 (Int32.lt_trans z (by decide)))
      have hp64 : 64 ≤ p := by
        rw [show (64 : Int32) = nI 64 from rfl, nI_ltI hp (by omega)] at h64
        omega
      have eX : nI p >>> ((6 : Int32) &&& 31) = nI (p / 64) := pk_shrN hp _ 6 (by decide)
      have eC : (nI p &&& 63) + 1 = nI (p % 64 + 1) := by
        rw [pk_andN (m := 63) (by omega) 6 (by decide), nI_1]
      have eY : nI p / 64 = nI (p / 64) := pk_div (d := 64) hp (by omega) (by omega)
      have h1 : ¬ nI (p / 64) < 1 := nI_nlt (b := 1) (by omega) (by omega)
      by_cases h16 : p / 64 ≤ 16
      · have h16' : nI (p / 64) ≤ 16 := nI_le (b := 16) h16 (by omega)
        obtain ⟨m, hm, hl, hz⟩ := cv_m f (p / 64) (p % 64 + 1)
        refine cx_ko rfl hf (br_f (by decide) (nm_r eX (br_f h1 (br_t h16' (nm_r eC (cx_sp v3 f (p / 64) (p % 64 + 1) m h16 (by omega) hm hl hf hz ?_))))))
        refine cy_ko rfl hf (br_t rfl (br_f h64 ⟨by decide, ?_⟩))
        rw [eY]
        exact br_t h16' (cy_sp v3 f p m hp h16 hm hf hl hz ⟨rfl, cv_J (cv_I_R I (cv_R_pI R f (p / 64) (fun i => v3 + nI i) m))⟩)
      · have h16' : ¬ nI (p / 64) ≤ 16 := nI_ge (a := 16) (by omega) (by omega)
        refine cx_ko rfl hf (br_f (by decide) (nm_r eX (br_f h1 (br_f h16' ?_))))
        refine cy_ko rfl hf (br_t rfl (br_f h64 ⟨by decide, ?_⟩))
        rw [eY]
        exact br_f h16' ⟨rfl, cv_J I⟩
end
section
section
variable {cc cb ct nw : Int32} {P V fp sp an hd T W fs sc hs : Nat → Int32}
theorem cv_Lcl (R : cv_R P V T W) (b h : Nat) (eb : cb = nI b) (eb' : nw = nI b) (hb : b < 4) (eh : hd b = nI h) (eh' : hs b = nI h) (hh : h < 20) : ∃ t : Bool, (∀ post : Int32 → Prop, post (cv_i t) → wpX_isClean post (cc, cb, P, V, fp, sp, an, hd)) ∧ (∀ post : Int32 → Prop, post (cv_i t) → wpY_isClean post (ct, nw, T, W, fs, sc, hs)) :=
  ⟨_, fun _ H => cx_cl b h eb hb eh hh H, fun _ H => cy_cl R b h eb' hb eh' hh H⟩
theorem cv_Lgc (a c : Nat) (ha : a < 20) (hc : c < 20) (ea : an a = cv_line fs sc a) (ec : an c = cv_line fs sc c) : ∃ o, o < 20 ∧ (∀ post : Int32 → Prop, post (nI o) → wpX_greatestCommonAncestor post (cc, cb, P, V, fp, sp, an, hd) (nI a) (nI c)) ∧ (∀ post : Int32 → Prop, post (nI o) → wpY_shared post (ct, nw, T, W, fs, sc, hs) (nI a) (nI c)) :=
  ⟨cv_gc (an a &&& an c) 20, cv_gc_lt _, fun _ H => cx_gc a c rfl rfl ha hc H, fun _ H => cy_sh a c rfl rfl ha hc (by rw [← ea, ← ec]; exact H)⟩
theorem cv_Lcc (R : cv_R P V T W) (o a c : Nat) (ho : o < 20) (ha : a < 20) (hc : c < 20) : ∃ r : Int32, (∀ post : Int32 → Prop, post r → wpX_countConflicts post (cc, cb, P, V, fp, sp, an, hd) (nI o) (nI a) (nI c)) ∧ (∀ post : Int32 → Prop, post r → wpY_clashes post (ct, nw, T, W, fs, sc, hs) (nI o) (nI a) (nI c)) :=
  ⟨_, fun _ H => cx_cc o a c rfl rfl rfl (by omega) (by omega) (by omega) H, fun _ H => cy_cc R o a c rfl rfl rfl (by omega) (by omega) (by omega) H⟩
end
theorem cv_sy {x : Int32} {A B : Prop} (h : x < 0 ∨ nI 3 ≤ x) (a : A) : (x < 0 → A) ∧ (¬ x < 0 → ((x ≤ 2 → B) ∧ (¬ x ≤ 2 → A))) := br_c (fun _ => a) (fun z => br_f (fun y => absurd (Int32.le_trans (h.resolve_left z) y) (by decide)) a)
theorem cv_so {s : Nat} {A B : Prop} (h : s < 3) (b : B) : (nI s < 0 → A) ∧ (¬ nI s < 0 → ((nI s ≤ 2 → B) ∧ (¬ nI s ≤ 2 → A))) := br_f (nI_pos (by omega)) (br_t (nI_le (b := 2) (by omega) (by decide)) b)
theorem cv_rf {s r : Int32} {A B : Prop} (h : ¬ (s = 2 ∧ ¬ r ≤ 0)) (a : A) : (s = 2 → ((r ≤ 0 → A) ∧ (¬ r ≤ 0 → B))) ∧ (¬ s = 2 → A) := br_c (fun e => br_c (fun _ => a) (fun z => absurd ⟨e, z⟩ h)) (fun _ => a)
theorem cv_rt {s r : Int32} {A B : Prop} (h : s = 2 ∧ ¬ r ≤ 0) (b : B) : (s = 2 → ((r ≤ 0 → A) ∧ (¬ r ≤ 0 → B))) ∧ (¬ s = 2 → A) := br_t h.1 (br_f h.2 b)
theorem cv_nq {a b : Nat} (ha : a < 20) (hb : b < 20) (h : ¬ a = b) : ¬ nI a = nI b := fun z => h ((nI_eq (by omega) (by omega)).mp z)
/-- what merge and pick do at their ends, on both sides -/
theorem cv_bl {n b : Nat} {P V T W fp sp an hd : Nat → Int32} (I : cv_I n b P V T W fp sp an hd) (o a c : Nat) (ha : a < 20) (hc : c < 20) (s : Int32) :
    cv_I n b (cv_mx P (cx_g P V o a c s) 20 64) (cv_mx V (cx_g P V o a c s) 20 64) (cv_mx (cv_mx T (cy_g P V o a c s) 21 64) (fun k => 64 * 21 + k) 20 64) (cv_mx (cv_mx W (cy_g P V o a c s) 21 64) (fun k => 64 * 21 + k) 20 64) fp sp an hd :=
  cv_I_R I (cv_R_bl I.2.2.1 _ _ (fun k hk => Nat.lt_trans (cy_g_lt ha hc hk) (by omega)) (fun k _ => (cv_g_eq o a c s k).1) (fun k _ => (cv_g_eq o a c s k).2))
theorem i_vc_merge {k : Nat} {u : SX} {v : SY} (I : i_Rel k u v) (hk : k + 4 ≤ 2048) (v1 : Int32) (v2 : Int32) : wpX_merge (fun r u' => wpY_merge (fun r' v' => r' = r ∧ i_Rel (k + 4) u' v') v v1 v2) u v1 v2 := by
  obtain ⟨n, b, P, V, T, W, fp, sp, an, hd, rfl, rfl, I⟩ := I
  have ⟨hn, hb, R, hH, hP, hA⟩ := I
  obtain ⟨h, hh, eh⟩ := hH b hb
  have ib := vp_in_nI (n := b) (N := 4) hb (by omega)
  have eB : hd (nI b).toNatClampNeg = nI h := by rw [nI_clamp (n := b) (by omega), eh]
  unfold wpX_merge wpY_merge
  rcases cv_ix v1 4 (by omega) with hv | ⟨j, hj, rfl⟩
  · exact cx_bb hv (br_t rfl (cy_bb hv (br_f (by decide) ⟨rfl, cv_J I⟩)))
  rcases cv_ix v2 3 (by omega) with hv | ⟨s, hs, rfl⟩
  · exact cx_bo rfl hj (br_f (by decide) (cx_sb hv (br_t rfl (cy_bo rfl hj (br_t rfl (cv_sy hv ⟨rfl, cv_J I⟩))))))
  obtain ⟨g, hg, eg⟩ := hH j hj
  have ij := vp_in_nI (n := j) (N := 4) hj (by omega)
  have eJ : hd (nI j).toNatClampNeg = nI g := by rw [nI_clamp (n := j) (by omega), eg]
  obtain ⟨t, clX, clY⟩ := cv_Lcl (cc := nI n) (ct := nI n) (fp := fp) (sp := sp) (an := an) (fs := fp) (sc := sp) R b h rfl rfl hb eh eh (by omega)
  cases t
  · exact cx_bo rfl hj (br_f (by decide) (cx_so rfl hs (br_f (by decide) (clX _ (br_t rfl (cy_bo rfl hj (br_t rfl (cv_so hs (clY _ (br_t rfl ⟨rfl, cv_J I⟩))))))))))
  obtain ⟨o, ho, gX, gY⟩ := cv_Lgc (cc := nI n) (cb := nI b) (P := P) (V := V) (fp := fp) (sp := sp) (hd := hd) (ct := nI n) (nw := nI b) (T := T) (W := W) (hs := hd) h g (by omega) (by omega) (hA h hh) (hA g hg)
  by_cases e1 : o = g
  · subst e1
    refine cx_bo rfl hj (br_f (by decide) (cx_so rfl hs (br_f (by decide) (clX _ (br_f (by decide) ⟨ib, nm_r (e' := nI h) eB ⟨ij, nm_r (e' := nI o) eJ (gX _ (br_t rfl ?_))⟩⟩)))))
    exact cy_bo rfl hj (br_t rfl (cv_so hs (clY _ (br_f (by decide) (cy_mi b h rfl hb eh ⟨ij, nm_r (e' := nI o) eJ (gY _ (br_t rfl ⟨rfl, cv_J I⟩))⟩)))))
  have n1 := cv_nq ho (by omega) e1
  by_cases e2 : o = h
  · subst e2
    have eU : upd hd (nI b).toNatClampNeg (nI g) = upd hd b (nI g) := by rw [nI_clamp (n := b) (by omega)]
    refine cx_bo rfl hj (br_f (by decide) (cx_so rfl hs (br_f (by decide) (clX _ (br_f (by decide) ⟨ib, nm_r (e' := nI o) eB ⟨ij, nm_r (e' := nI g) eJ (gX _ (br_f n1 (br_t rfl ⟨ib, nm_r eU (cx_lw g rfl (by omega) (fun j hj => cv_R_b R hj) ?_)⟩)))⟩⟩)))))
    exact cy_bo rfl hj (br_t rfl (cv_so hs (clY _ (br_f (by decide) (cy_mi b o rfl hb eh ⟨ij, nm_r (e' := nI g) eJ (gY _ (br_f n1 (br_t rfl ⟨ib, nm_r eU (cy_cp g 20 rfl rfl (by omega) (by omega) (by omega) (fun k hk => cv_R_t R (by omega)) ⟨rfl, cv_J (cv_I_hd (cv_I_R I (cv_R_cp R _ 20 (fun k hk => by omega))) b hg)⟩)⟩)))⟩)))))
  have n2 := cv_nq ho (by omega) e2
  by_cases e3 : n = 20
  · subst e3
    refine cx_bo rfl hj (br_f (by decide) (cx_so rfl hs (br_f (by decide) (clX _ (br_f (by decide) ⟨ib, nm_r (e' := nI h) eB ⟨ij, nm_r (e' := nI g) eJ (gX _ (br_f n1 (br_f n2 (cx_fu rfl rfl (br_f (by decide) ?_)))))⟩⟩)))))
    exact cy_bo rfl hj (br_t rfl (cv_so hs (clY _ (br_f (by decide) (cy_mi b h rfl hb eh ⟨ij, nm_r (e' := nI g) eJ (gY _ (br_f n1 (br_f n2 (br_f (by decide) ⟨rfl, cv_J I⟩))))⟩)))))
  have hn' : n < 20 := by omega
  have le19 : nI n ≤ 19 := nI_le (b := 19) (by omega) (by decide)
  obtain ⟨r, cX, cY⟩ := cv_Lcc (cc := nI n) (cb := nI b) (fp := fp) (sp := sp) (an := an) (hd := hd) (ct := nI n) (nw := nI b) (fs := fp) (sc := sp) (hs := hd) R o h g ho (by omega) (by omega)
  by_cases e4 : nI s = 2 ∧ ¬ r ≤ 0
  · refine cx_bo rfl hj (br_f (by decide) (cx_so rfl hs (br_f (by decide) (clX _ (br_f (by decide) ⟨ib, nm_r (e' := nI h) eB ⟨ij, nm_r (e' := nI g) eJ (gX _ (br_f n1 (br_f n2 (cx_nf rfl hn' (br_t rfl (cX _ (cv_rt e4 ?_)))))))⟩⟩)))))
    exact cy_bo rfl hj (br_t rfl (cv_so hs (clY _ (br_f (by decide) (cy_mi b h rfl hb eh ⟨ij, nm_r (e' := nI g) eJ (gY _ (br_f n1 (br_f n2 (br_t le19 (cY _ (cv_rt e4 ⟨rfl, cv_J I⟩))))))⟩)))))
  have I' := cv_bl I o h g (by omega) (by omega) (nI s)
  refine cx_bo rfl hj (br_f (by decide) (cx_so rfl hs (br_f (by decide) (clX _ (br_f (by decide) ⟨ib, nm_r (e' := nI h) eB ⟨ij, nm_r (e' := nI g) eJ (gX _ (br_f n1 (br_f n2 (cx_nf rfl hn' (br_t rfl (cX _ (cv_rf e4 ?_)))))))⟩⟩)))))
  unfold wX_merge_131
  refine cx_mi o h g rfl rfl rfl ho (by omega) (by omega) (fun j hj => cv_R_b R hj) (cx_ac n b h rfl rfl hn' hb eh hh (fun j hj => cv_R_b I'.2.2.1 hj) (Or.inr ⟨g, hg, rfl⟩) _ rfl ?_)
  refine cy_bo rfl hj (br_t rfl (cv_so hs (clY _ (br_f (by decide) (cy_mi b h rfl hb eh ⟨ij, nm_r (e' := nI g) eJ (gY _ (br_f n1 (br_f n2 (br_t le19 (cY _ (cv_rf e4 ?_))))))⟩)))))
  unfold wY_merge_130
  exact cy_bl R o h g rfl rfl rfl ho (by omega) (by omega) (cy_mk n b rfl rfl hn' hb (fun k hk => cv_R_t I'.2.2.1 (by omega)) ⟨rfl, cv_J (cv_I_add I' hn' hh (Or.inr ⟨g, hg, rfl⟩))⟩)
theorem i_vc_pick {k : Nat} {u : SX} {v : SY} (I : i_Rel k u v) (hk : k + 4 ≤ 2048) (v1 : Int32) (v2 : Int32) : wpX_pick (fun r u' => wpY_pick (fun r' v' => r' = r ∧ i_Rel (k + 4) u' v') v v1 v2) u v1 v2 := by
  obtain ⟨n, b, P, V, T, W, fp, sp, an, hd, rfl, rfl, I⟩ := I
  have ⟨hn, hb, R, hH, hP, hA⟩ := I
  obtain ⟨h, hh, eh⟩ := hH b hb
  have ib := vp_in_nI (n := b) (N := 4) hb (by omega)
  have eB : hd (nI b).toNatClampNeg = nI h := by rw [nI_clamp (n := b) (by omega), eh]
  unfold wpX_pick wpY_pick
  rcases cv_ix v1 n (by omega) with hv | ⟨c, hc, rfl⟩
  · exact cx_mb rfl hv (br_t rfl (cy_mb rfl hv (br_f (by decide) ⟨rfl, cv_J I⟩)))
  rcases cv_ix v2 3 (by omega) with hv | ⟨s, hs, rfl⟩
  · exact cx_mo rfl hn.2 rfl hc (br_f (by decide) (cx_sb hv (br_t rfl (cy_mo rfl hn.2 rfl hc (br_t rfl (cv_sy hv ⟨rfl, cv_J I⟩))))))
  have ic := vp_in_nI (n := c) (N := 20) (by omega) (by omega)
  obtain ⟨t, clX, clY⟩ := cv_Lcl (cc := nI n) (ct := nI n) (fp := fp) (sp := sp) (an := an) (fs := fp) (sc := sp) R b h rfl rfl hb eh eh (by omega)
  cases t
  · exact cx_mo rfl hn.2 rfl hc (br_f (by decide) (cx_so rfl hs (br_f (by decide) (clX _ (br_t rfl (cy_mo rfl hn.2 rfl hc (br_t rfl (cv_so hs (clY _ (br_t rfl ⟨rfl, cv_J I⟩))))))))))
  by_cases e3 : n = 20
  · subst e3
    refine cx_mo rfl hn.2 rfl hc (br_f (by decide) (cx_so rfl hs (br_f (by decide) (clX _ (br_f (by decide) (cx_fu rfl rfl (br_f (by decide) ?_)))))))
    exact cy_mo rfl hn.2 rfl hc (br_t rfl (cv_so hs (clY _ (br_f (by decide) (br_f (by decide) ⟨rfl, cv_J I⟩)))))
  have hn' : n < 20 := by omega
  have le19 : nI n ≤ 19 := nI_le (b := 19) (by omega) (by decide)
  rcases (hP c hc).1 with eF | ⟨o, ho, eF⟩
  · have eO : fp (nI c).toNatClampNeg = -1 := by rw [nI_clamp (n := c) (by omega), eF]
    refine cx_mo rfl hn.2 rfl hc (br_f (by decide) (cx_so rfl hs (br_f (by decide) (clX _ (br_f (by decide) (cx_nf rfl hn' (br_t rfl ⟨ic, nm_r (e' := -1) eO (br_t rfl ?_)⟩)))))))
    exact cy_mo rfl hn.2 rfl hc (br_t rfl (cv_so hs (clY _ (br_f (by decide) (br_t le19 ⟨ic, nm_r (e' := -1) eO (br_f (by decide) ⟨rfl, cv_J I⟩)⟩)))))
  have eO : fp (nI c).toNatClampNeg = nI o := by rw [nI_clamp (n := c) (by omega), eF]
  have nP : 0 ≤ nI o := nI_pos' (by omega)
  have nO : ¬ nI o = -1 := fun z => absurd nP (by rw [z]; decide)
  obtain ⟨r, cX, cY⟩ := cv_Lcc (cc := nI n) (cb := nI b) (fp := fp) (sp := sp) (an := an) (hd := hd) (ct := nI n) (nw := nI b) (fs := fp) (sc := sp) (hs := hd) R o h c (by omega) (by omega) (by omega)
  by_cases e4 : nI s = 2 ∧ ¬ r ≤ 0
  · refine cx_mo rfl hn.2 rfl hc (br_f (by decide) (cx_so rfl hs (br_f (by decide) (clX _ (br_f (by decide) (cx_nf rfl hn' (br_t rfl ⟨ic, nm_r (e' := nI o) eO (br_f nO ⟨ib, nm_r (e' := nI h) eB (cX _ (cv_rt e4 ?_))⟩)⟩)))))))
    exact cy_mo rfl hn.2 rfl hc (br_t rfl (cv_so hs (clY _ (br_f (by decide) (br_t le19 ⟨ic, nm_r (e' := nI o) eO (br_t nP (cy_mi b h rfl hb eh (cY _ (cv_rt e4 ⟨rfl, cv_J I⟩))))⟩)))))
  have I' := cv_bl I o h c (by omega) (by omega) (nI s)
  refine cx_mo rfl hn.2 rfl hc (br_f (by decide) (cx_so rfl hs (br_f (by decide) (clX _ (br_f (by decide) (cx_nf rfl hn' (br_t rfl ⟨ic, nm_r (e' := nI o) eO (br_f nO ⟨ib, nm_r (e' := nI h) eB (cX _ (cv_rf e4 ?_))⟩)⟩)))))))
  unfold wX_pick_90
  refine cx_mi o h c rfl rfl rfl (by omega) (by omega) (by omega) (fun j hj => cv_R_b R hj) (cx_ac n b h rfl rfl hn' hb eh hh (fun j hj => cv_R_b I'.2.2.1 hj) (Or.inl rfl) _ rfl ?_)
  refine cy_mo rfl hn.2 rfl hc (br_t rfl (cv_so hs (clY _ (br_f (by decide) (br_t le19 ⟨ic, nm_r (e' := nI o) eO (br_t nP (cy_mi b h rfl hb eh (cY _ (cv_rf e4 ?_))))⟩)))))
  unfold wY_pick_87
  exact cy_bl R o h c rfl rfl rfl (by omega) (by omega) (by omega) (cy_mk n b rfl rfl hn' hb (fun k hk => cv_R_t I'.2.2.1 (by omega)) ⟨rfl, cv_J (cv_I_add I' hn' hh (Or.inl rfl))⟩)
end
