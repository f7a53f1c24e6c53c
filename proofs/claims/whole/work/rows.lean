section
theorem pk_us {f : Nat → Int32} {k : Nat} {x : Int32} : upd f k x k = x := if_pos rfl
theorem pk_un {f : Nat → Int32} {k j : Nat} {x : Int32} (h : j ≠ k) : upd f k x j = f j := if_neg h
theorem pk_sub {a b : Nat} (h : b ≤ a) : nI a - nI b = nI (a - b) := by
  obtain ⟨c, rfl⟩ : ∃ c, a = c + b := ⟨a - b, by omega⟩
  rw [← nI_add, Int32.add_sub_cancel, Nat.add_sub_cancel]
theorem pk_m1 (n : Nat) : nI (n + 1) + (-1) = nI n := by
  rw [← nI_1, Int32.add_assoc, show (1 : Int32) + (-1) = 0 from rfl, Int32.add_zero]
theorem pk_mul (a b : Nat) : nI a * nI b = nI (a * b) := (Int32.ofNat_mul a b).symm
theorem pk_div {a d : Nat} (ha : a < 2 ^ 31) (h0 : 0 < d) (hd : d < 2 ^ 31) : nI a / nI d = nI (a / d) := by
  apply Int32.toInt_inj.mp
  rw [lg_idiv_nonneg (by rw [nI_toInt ha]; omega) (by rw [nI_toInt hd]; omega), nI_toInt ha, nI_toInt hd, nI_toInt (Nat.lt_of_le_of_lt (Nat.div_le_self a d) ha)]
  first | rfl | exact (Int.natCast_ediv _ _).symm
theorem pk_rem {a d : Nat} (ha : a < 2 ^ 31) (h0 : 0 < d) (hd : d < 2 ^ 31) : nI a - nI a / nI d * nI d = nI (a % d) := by
  rw [pk_div ha h0 hd, pk_mul, pk_sub (Nat.div_mul_le_self a d)]
  exact congrArg nI (by have := Nat.div_add_mod' a d; omega)
theorem pk_ix (x : Int32) {n : Nat} (hn : n < 2 ^ 31) : x < 0 ∨ nI n ≤ x ∨ ∃ j : Nat, j < n ∧ x = nI j := by
  by_cases h : x < 0
  · exact Or.inl h
  · obtain ⟨j, hj, rfl⟩ := nI_of h
    by_cases h2 : j < n
    · exact Or.inr (Or.inr ⟨j, h2, rfl⟩)
    · exact Or.inr (Or.inl (nI_le (by omega) hj))
theorem pk_le {x y : Int32} {A B : Prop} (a b : Nat) (f : a ≤ b → A) (g : b < a → B) (hx : x = nI a := by rfl) (hy : y = nI b := by rfl) (ha : a < 2 ^ 31 := by omega) (hb : b < 2 ^ 31 := by omega) : (x ≤ y → A) ∧ (¬ x ≤ y → B) := by
  subst hx hy
  rw [nI_leI ha hb]
  exact ⟨f, fun z => g (by omega)⟩
theorem pk_lt {x y : Int32} {A B : Prop} (a b : Nat) (f : a < b → A) (g : b ≤ a → B) (hx : x = nI a := by rfl) (hy : y = nI b := by rfl) (ha : a < 2 ^ 31 := by omega) (hb : b < 2 ^ 31 := by omega) : (x < y → A) ∧ (¬ x < y → B) := by
  subst hx hy
  rw [nI_ltI ha hb]
  exact ⟨f, fun z => g (by omega)⟩
theorem pk_eq {x y : Int32} {A B : Prop} (a b : Nat) (f : a = b → A) (g : a ≠ b → B) (hx : x = nI a := by rfl) (hy : y = nI b := by rfl) (ha : a < 2 ^ 31 := by omega) (hb : b < 2 ^ 31 := by omega) : (x = y → A) ∧ (¬ x = y → B) := by
  subst hx hy
  rw [nI_eq ha hb]
  exact ⟨f, g⟩
theorem pk_in {x : Int32} (n N : Nat) (h : n < N) (hx : x = nI n := by rfl) (hN : N < 2 ^ 31 := by omega) : vp_in x N := by
  subst hx
  exact vp_in_nI h hN
theorem pk_cl {x : Int32} (n : Nat) (hx : x = nI n := by rfl) (h : n < 2 ^ 31 := by omega) : x.toNatClampNeg = n := by
  subst hx
  exact nI_clamp h
theorem pk_tn {n : Nat} (h : n < 2 ^ 32) : (nI n).toBitVec.toNat = n := Nat.mod_eq_of_lt h
theorem pk_and (x : Int32) {m : Int32} (k : Nat) (hm : m.toBitVec.toNat = 2 ^ k - 1) : x &&& m = nI (x.toBitVec.toNat % 2 ^ k) := by
  apply Int32.toBitVec_inj.mp
  apply BitVec.eq_of_toNat_eq
  rw [Int32.toBitVec_and, BitVec.toNat_and, hm, Nat.and_two_pow_sub_one_eq_mod]
  show _ = (BitVec.ofNat 32 _).toNat
  rw [BitVec.toNat_ofNat]
  exact (Nat.mod_eq_of_lt (Nat.lt_of_le_of_lt (Nat.mod_le _ _) x.toBitVec.isLt)).symm
theorem pk_andN {n : Nat} (h : n < 2 ^ 32) {m : Int32} (k : Nat) (hm : m.toBitVec.toNat = 2 ^ k - 1) : nI n &&& m = nI (n % 2 ^ k) := by
  rw [pk_and _ k hm, pk_tn h]
theorem pk_shl (a s : Int32) (k : Nat) (hs : (s.toBitVec.smod 32).toNat = k) : (a <<< s).toBitVec.toNat = a.toBitVec.toNat * 2 ^ k % 2 ^ 32 := by
  show (a.toBitVec <<< (s.toBitVec.smod 32).toNat).toNat = _
  rw [hs, BitVec.toNat_shiftLeft, Nat.shiftLeft_eq]
theorem pk_shlN {n : Nat} (s : Int32) (k : Nat) (hs : (s.toBitVec.smod 32).toNat = k) (h : n * 2 ^ k < 2 ^ 32) : nI n <<< s = nI (n * 2 ^ k) := by
  apply Int32.toBitVec_inj.mp
  apply BitVec.eq_of_toNat_eq
  have hn : n < 2 ^ 32 := Nat.lt_of_le_of_lt (Nat.le_mul_of_pos_right n (Nat.two_pow_pos k)) h
  rw [pk_shl _ _ k hs, pk_tn hn, pk_tn h, Nat.mod_eq_of_lt h]
theorem pk_shr (a s : Int32) (k : Nat) (hs : (s.toBitVec.smod 32).toNat = k) : (a >>> s).toInt = a.toInt >>> k := by
  show (a.toBitVec.sshiftRight (s.toBitVec.smod 32).toNat).toInt = _
  rw [hs, BitVec.toInt_sshiftRight]
  rfl
theorem pk_shrN {n : Nat} (h : n < 2 ^ 31) (s : Int32) (k : Nat) (hs : (s.toBitVec.smod 32).toNat = k) : nI n >>> s = nI (n / 2 ^ k) := by
  apply Int32.toInt_inj.mp
  have h2 : n / 2 ^ k ≤ n := Nat.div_le_self _ _
  rw [pk_shr _ _ k hs, nI_toInt h, nI_toInt (by omega), Int.shiftRight_eq_div_pow]
  rfl
def bt (x : Int32) (i : Nat) : Bool := x.toBitVec.getLsbD i
theorem b_ext {x y : Int32} (h : ∀ i, i < 32 → bt x i = bt y i) : x = y := Int32.toBitVec_inj.mp (BitVec.eq_of_getLsbD_eq (fun i hi => h i hi))
theorem b_or (x y : Int32) (i : Nat) : bt (x ||| y) i = (bt x i || bt y i) := by unfold bt; rw [Int32.toBitVec_or, BitVec.getLsbD_or]
theorem b_and (x y : Int32) (i : Nat) : bt (x &&& y) i = (bt x i && bt y i) := by unfold bt; rw [Int32.toBitVec_and, BitVec.getLsbD_and]
theorem b_big {x : Int32} {i : Nat} (h : 32 ≤ i) : bt x i = false := BitVec.getLsbD_of_ge _ _ h
theorem b_0 (i : Nat) : bt 0 i = false := BitVec.getLsbD_zero
theorem s_l : ∀ n, n < 32 → ((nI n &&& 31).toBitVec.smod 32).toNat = n := by decide +kernel
theorem b_shl (n : Nat) (hn : n < 32) (x : Int32) {i : Nat} (hi : i < 32) : bt (x <<< (nI n &&& 31)) i = (decide (n ≤ i) && bt x (i - n)) := by
  unfold bt
  rw [Int32.toBitVec_shiftLeft]
  show (x.toBitVec <<< ((nI n &&& 31).toBitVec.smod 32).toNat).getLsbD i = _
  rw [s_l n hn, BitVec.getLsbD_shiftLeft]
  rcases Nat.lt_or_ge i n with h | h
  · simp [h, Nat.not_le.mpr h]
  · simp [hi, h, Nat.not_lt.mpr h]
theorem b_sshr (n : Nat) (hn : n < 32) (x : Int32) {i : Nat} (hi : i < 32) : bt (x >>> (nI n &&& 31)) i = if n + i < 32 then bt x (n + i) else bt x 31 := by
  unfold bt
  rw [Int32.toBitVec_shiftRight]
  show (x.toBitVec.sshiftRight ((nI n &&& 31).toBitVec.smod 32).toNat).getLsbD i = _
  rw [s_l n hn, BitVec.getLsbD_sshiftRight, BitVec.msb_eq_getLsbD_last]
  simp [hi]
end
section
def cv_i (b : Bool) : Int32 := match b with
  | true => 1
  | false => 0
theorem cv_br {b : Bool} {A B : Prop} (f : b = false → A) (t : b = true → B) : (cv_i b = 0 → A) ∧ (¬ cv_i b = 0 → B) := by
  cases b
  · exact br_t rfl (f rfl)
  · exact br_f (by decide) (t rfl)
/-- two maps agree on a key, as the component reads it -/
def cv_ag (P V : Nat → Int32) (a b k : Nat) : Bool := decide (P (64 * a + k) = P (64 * b + k)) && decide (V (64 * a + k) = V (64 * b + k))
def cv_cf (P V : Nat → Int32) (o a b k : Nat) : Bool := !cv_ag P V a b k && !cv_ag P V a o k && !cv_ag P V b o k
def cv_ct (q : Nat → Bool) : Nat → Int32
  | 0 => 0
  | i + 1 => match q i with
    | true => cv_ct q i + 1
    | false => cv_ct q i
theorem cv_ct_t {q : Nat → Bool} {i : Nat} (h : q i = true) : cv_ct q i + 1 = cv_ct q (i + 1) := by simp only [cv_ct, h]
theorem cv_ct_f {q : Nat → Bool} {i : Nat} (h : q i = false) : cv_ct q i = cv_ct q (i + 1) := by simp only [cv_ct, h]
/-- the greatest bit below 20 that is set, or 0 -/
def cv_gc (m : Int32) : Nat → Nat
  | 0 => 0
  | i + 1 => if ((m >>> (nI i &&& 31)) &&& 1) = 1 then i else cv_gc m i
theorem cv_gc_le (m : Int32) : ∀ i, cv_gc m i ≤ i
  | 0 => Nat.le_refl 0
  | i + 1 => by
    have := cv_gc_le m i
    unfold cv_gc
    split <;> omega
theorem cv_gc_lt (m : Int32) : cv_gc m 20 < 20 := by
  have := cv_gc_le m 19
  unfold cv_gc
  split <;> omega
def cv_an (m : Int32) : Nat → Int32
  | 0 => 0
  | i + 1 => cv_an m i + ((m >>> (nI i &&& 31)) &&& 1)
/-- cells t*64 .. t*64+i-1 filled from the cells that g names -/
def cv_mx (A : Nat → Int32) (g : Nat → Nat) (t i : Nat) : Nat → Int32 := fun j => if 64 * t ≤ j ∧ j < 64 * t + i then A (g (j - 64 * t)) else A j
theorem cv_mx_0 (A : Nat → Int32) (g : Nat → Nat) (t : Nat) : cv_mx A g t 0 = A := by
  funext j
  unfold cv_mx
  rw [if_neg (by omega)]
theorem cv_mx_o {A : Nat → Int32} {g : Nat → Nat} {t i j : Nat} (h : j < 64 * t ∨ 64 * t + i ≤ j) : cv_mx A g t i j = A j := by
  unfold cv_mx
  rw [if_neg (by omega)]
theorem cv_mx_i {A : Nat → Int32} {g : Nat → Nat} {t i k : Nat} (h : k < i) : cv_mx A g t i (64 * t + k) = A (g k) := by
  unfold cv_mx
  rw [if_pos (by omega)]
  exact congrArg (fun z => A (g z)) (by omega)
theorem cv_mx_s {A : Nat → Int32} {g : Nat → Nat} {t i : Nat} (hi : i < 64) (hg : g i < 64 * t ∨ 64 * t + 64 ≤ g i) : upd (cv_mx A g t i) (64 * t + i) (cv_mx A g t i (g i)) = cv_mx A g t (i + 1) := by
  rw [cv_mx_o (by omega)]
  funext j
  unfold upd
  by_cases h : j = 64 * t + i
  · rw [if_pos h, h, cv_mx_i (Nat.lt_succ_self i)]
  · rw [if_neg h]
    unfold cv_mx
    by_cases h2 : 64 * t ≤ j ∧ j < 64 * t + i
    · rw [if_pos h2, if_pos (by omega)]
    · rw [if_neg h2, if_neg (by omega)]
/-- the cells of both sides -/
def cv_R (P V T W : Nat → Int32) : Prop := ∀ j, j < 1344 → T j = P j ∧ (P j = 0 ∨ P j = 1) ∧ (P j = 0 → V j = 0) ∧ (¬ P j = 0 → W j = V j)
theorem cv_nb {x : Int32} (h : x = 0 ∨ x = 1) : vp_nar .boolean x = x := by
  rcases h with h | h <;> rw [h] <;> decide
theorem cv_n1 : vp_nar .boolean 1 = 1 := cv_nb (Or.inr rfl)
theorem cv_n0 : vp_nar .boolean 0 = 0 := cv_nb (Or.inl rfl)
theorem cv_R_put {P V T W : Nat → Int32} (R : cv_R P V T W) (c : Nat) (x : Int32) : cv_R (upd P c 1) (upd V c x) (upd T c 1) (upd W c x) := by
  intro j hj
  by_cases h : j = c
  · subst h
    rw [pk_us, pk_us, pk_us, pk_us]
    exact ⟨rfl, Or.inr rfl, fun z => absurd z (by decide), fun _ => rfl⟩
  · rw [pk_un h, pk_un h, pk_un h, pk_un h]
    exact R j hj
theorem cv_R_del {P V T W : Nat → Int32} (R : cv_R P V T W) (c : Nat) : cv_R (upd P c 0) (upd V c 0) (upd T c 0) W := by
  intro j hj
  by_cases h : j = c
  · subst h
    rw [pk_us, pk_us, pk_us]
    exact ⟨rfl, Or.inl rfl, fun _ => rfl, fun z => absurd rfl z⟩
  · rw [pk_un h, pk_un h, pk_un h]
    exact R j hj
theorem cv_R_cp {P V T W : Nat → Int32} (R : cv_R P V T W) (g : Nat → Nat) (t : Nat) (hg : ∀ k, k < 64 → g k < 1344) : cv_R (cv_mx P g t 64) (cv_mx V g t 64) (cv_mx T g t 64) (cv_mx W g t 64) := by
  intro j hj
  unfold cv_mx
  by_cases h : 64 * t ≤ j ∧ j < 64 * t + 64
  · simp only [if_pos h]
    exact R _ (hg _ (by omega))
  · simp only [if_neg h]
    exact R j hj
/-- the merge: the component writes into map 20, the reference into map 21 and then from there into map 20; where the sources differ their cells agree -/
theorem cv_R_bl {P V T W : Nat → Int32} (R : cv_R P V T W) (gx gy : Nat → Nat) (hy : ∀ k, k < 64 → gy k < 1344) (hp : ∀ k, k < 64 → P (gx k) = P (gy k)) (hv : ∀ k, k < 64 → V (gx k) = V (gy k)) :
    cv_R (cv_mx P gx 20 64) (cv_mx V gx 20 64) (cv_mx (cv_mx T gy 21 64) (fun k => 64 * 21 + k) 20 64) (cv_mx (cv_mx W gy 21 64) (fun k => 64 * 21 + k) 20 64) := by
  intro j hj
  by_cases h : 64 * 20 ≤ j
  · obtain ⟨k, rfl⟩ : ∃ k, j = 64 * 20 + k := ⟨j - 64 * 20, by omega⟩
    have hk : k < 64 := by omega
    rw [cv_mx_i hk, cv_mx_i hk, cv_mx_i hk, cv_mx_i hk]
    rw [cv_mx_i hk, cv_mx_i hk, hp k hk, hv k hk]
    exact R _ (hy k hk)
  · have h' : j < 64 * 20 ∨ 64 * 20 + 64 ≤ j := by omega
    have h2 : j < 64 * 21 ∨ 64 * 21 + 64 ≤ j := by omega
    rw [cv_mx_o h', cv_mx_o h', cv_mx_o h', cv_mx_o h', cv_mx_o h2, cv_mx_o h2]
    exact R j hj
theorem cv_R_b {P V T W : Nat → Int32} (R : cv_R P V T W) {j : Nat} (hj : j < 1344) : P j = 0 ∨ P j = 1 := (R j hj).2.1
theorem cv_R_t {P V T W : Nat → Int32} (R : cv_R P V T W) {j : Nat} (hj : j < 1344) : T j = 0 ∨ T j = 1 := by rw [(R j hj).1]; exact (R j hj).2.1
theorem cv_cx (a k : Nat) : nI a * 64 + nI k = nI (64 * a + k) := by
  rw [show (64 : Int32) = nI 64 from rfl, pk_mul, nI_add, Nat.mul_comm a 64]
theorem cv_cy (a k : Nat) : 64 * nI a + nI k = nI (64 * a + k) := by
  rw [show (64 : Int32) = nI 64 from rfl, pk_mul, nI_add]
end
section
def cv_bp (p : Nat) : Int32 := (1 : Int32) <<< (nI p &&& 31)
theorem cv_b1 : ∀ i, i < 32 → bt 1 i = decide (i = 0) := by decide +kernel
theorem cv_bpb {p i : Nat} (hp : p < 32) (hi : i < 32) : bt (cv_bp p) i = decide (i = p) := by
  unfold cv_bp
  rw [b_shl p hp 1 hi, cv_b1 _ (by omega)]
  by_cases h : i = p
  · simp [h]
  · by_cases h2 : p ≤ i
    · have : ¬ i - p = 0 := by omega
      simp [h, this]
    · simp [h, h2]
theorem cv_and1 (y : Int32) : y &&& 1 = 1 ↔ bt y 0 = true := by
  rw [pk_and y (m := 1) 1 (by decide)]
  have h : bt y 0 = decide (y.toBitVec.toNat % 2 = 1) := Nat.testBit_zero _
  rw [h, show (1 : Int32) = nI 1 from rfl, nI_eq (by omega) (by omega), decide_eq_true_iff]
theorem cv_bit (s : Int32) {d : Nat} (hd : d < 32) : ((s >>> (nI d &&& 31)) &&& 1) = 1 ↔ bt s d = true := by
  rw [cv_and1, b_sshr d hd s (by omega), Nat.add_zero, if_pos hd]
def cv_o2 (x s : Int32) : Int32 := if x < 0 then s else s ||| ((1 : Int32) <<< (x &&& 31))
def cv_st (fs sc : Nat → Int32) (d : Nat) (s : Int32) : Int32 := if ((s >>> (nI d &&& 31)) &&& 1) = 1 then cv_o2 (sc d) (cv_o2 (fs d) s) else s
def cv_ln (fs sc : Nat → Int32) : Nat → Int32 → Int32
  | 0, s => s
  | d + 1, s => cv_ln fs sc d (cv_st fs sc d s)
def cv_line (fs sc : Nat → Int32) (c : Nat) : Int32 := cv_ln fs sc (c + 1) (cv_bp c)
def cv_pm (x : Int32) : Int32 := if x < 0 then 0 else (1 : Int32) <<< (x &&& 31)
theorem cv_o2b (x s : Int32) (i : Nat) : bt (cv_o2 x s) i = (bt s i || bt (cv_pm x) i) := by
  unfold cv_o2 cv_pm
  by_cases h : x < 0
  · rw [if_pos h, if_pos h, b_0, Bool.or_false]
  · rw [if_neg h, if_neg h, b_or]
theorem cv_stb (fs sc : Nat → Int32) {d : Nat} (hd : d < 32) (s : Int32) (i : Nat) : bt (cv_st fs sc d s) i = (bt s i || (bt s d && (bt (cv_pm (fs d)) i || bt (cv_pm (sc d)) i))) := by
  unfold cv_st
  by_cases h : ((s >>> (nI d &&& 31)) &&& 1) = 1
  · rw [if_pos h, cv_o2b, cv_o2b, (cv_bit s hd).mp h, Bool.true_and, Bool.or_assoc]
  · have h2 : bt s d = false := by
      cases z : bt s d
      · rfl
      · exact absurd ((cv_bit s hd).mpr z) h
    rw [if_neg h, h2, Bool.false_and, Bool.or_false]
theorem cv_st_or (fs sc : Nat → Int32) {d : Nat} (hd : d < 32) (s t : Int32) : cv_st fs sc d (s ||| t) = cv_st fs sc d s ||| cv_st fs sc d t := by
  apply b_ext
  intro i _
  rw [b_or, cv_stb fs sc hd, cv_stb fs sc hd, cv_stb fs sc hd, b_or, b_or]
  generalize bt s i = p
  generalize bt t i = q
  generalize bt s d = r
  generalize bt t d = u
  generalize (bt (cv_pm (fs d)) i || bt (cv_pm (sc d)) i) = w
  revert p q r u w
  decide
theorem cv_ln_or (fs sc : Nat → Int32) : ∀ d, d ≤ 32 → ∀ s t : Int32, cv_ln fs sc d (s ||| t) = cv_ln fs sc d s ||| cv_ln fs sc d t
  | 0, _, _, _ => rfl
  | d + 1, hd, s, t => by
    unfold cv_ln
    rw [cv_st_or fs sc (by omega), cv_ln_or fs sc d (by omega)]
theorem cv_st_id (fs sc : Nat → Int32) {d : Nat} (hd : d < 32) {s : Int32} (h : bt s d = false) : cv_st fs sc d s = s := by
  apply b_ext
  intro i _
  rw [cv_stb fs sc hd, h, Bool.false_and, Bool.or_false]
theorem cv_ln_id (fs sc : Nat → Int32) : ∀ d, d ≤ 32 → ∀ s : Int32, (∀ i, i < d → bt s i = false) → cv_ln fs sc d s = s
  | 0, _, _, _ => rfl
  | d + 1, hd, s, h => by
    unfold cv_ln
    rw [cv_st_id fs sc (by omega) (h d (by omega))]
    exact cv_ln_id fs sc d (by omega) s (fun i hi => h i (by omega))
theorem cv_ln_sk (fs sc : Nat → Int32) {p : Nat} : ∀ d, d ≤ 32 → p < d → cv_ln fs sc d (cv_bp p) = cv_line fs sc p
  | 0, _, h => absurd h (Nat.not_lt_zero p)
  | d + 1, hd, h => by
    by_cases e : d = p
    · subst e
      rfl
    · have h2 : p < d := by omega
      unfold cv_ln
      rw [cv_st_id fs sc (by omega) (by rw [cv_bpb (by omega) (by omega)]; exact decide_eq_false e)]
      exact cv_ln_sk fs sc d (by omega) h2
theorem cv_ln_cg {fs sc fs' sc' : Nat → Int32} : ∀ d (s : Int32), (∀ c, c < d → fs c = fs' c ∧ sc c = sc' c) → cv_ln fs sc d s = cv_ln fs' sc' d s
  | 0, _, _ => rfl
  | d + 1, s, h => by
    unfold cv_ln
    have e : cv_st fs sc d s = cv_st fs' sc' d s := by
      unfold cv_st
      rw [(h d (by omega)).1, (h d (by omega)).2]
    rw [e]
    exact cv_ln_cg d _ (fun c hc => h c (by omega))
theorem cv_line_cg {fs sc fs' sc' : Nat → Int32} (c : Nat) (h : ∀ d, d < c + 1 → fs d = fs' d ∧ sc d = sc' d) : cv_line fs sc c = cv_line fs' sc' c := cv_ln_cg (c + 1) _ h
theorem cv_pmN {h : Nat} (hh : h < 32) : cv_pm (nI h) = cv_bp h := by
  unfold cv_pm cv_bp
  rw [if_neg (nI_pos (by omega))]
theorem cv_or0 (s : Int32) : s ||| 0 = s := by
  apply b_ext
  intro i _
  rw [b_or, b_0, Bool.or_false]
/-- what the line of a commit is that has just been made -/
theorem cv_line_new (fs sc : Nat → Int32) {n h : Nat} (hn : n < 32) (hh : h < n) (e : fs n = nI h) : cv_line fs sc n = (cv_bp n ||| cv_line fs sc h) ||| cv_ln fs sc n (cv_pm (sc n)) := by
  have e2 : cv_st fs sc n (cv_bp n) = (cv_bp n ||| cv_bp h) ||| cv_pm (sc n) := by
    apply b_ext
    intro i hi
    rw [cv_stb fs sc hn, cv_bpb hn hn, b_or, b_or, e, cv_pmN (by omega)]
    simp [Bool.or_assoc]
  show cv_ln fs sc n (cv_st fs sc n (cv_bp n)) = _
  rw [e2, cv_ln_or fs sc n (by omega), cv_ln_or fs sc n (by omega), cv_ln_sk fs sc n (by omega) hh, cv_ln_id fs sc n (by omega) (cv_bp n) (fun i hi => by rw [cv_bpb hn (by omega)]; exact decide_eq_false (by omega))]
theorem cv_line_0 (fs sc : Nat → Int32) (h0 : fs 0 < 0) (h1 : sc 0 < 0) : cv_line fs sc 0 = 1 := by
  show cv_st fs sc 0 (cv_bp 0) = 1
  unfold cv_st cv_o2
  rw [if_pos h1, if_pos h0, ite_self]
  decide
theorem cv_ln_m1 (fs sc : Nat → Int32) {n : Nat} (hn : n ≤ 32) {x : Int32} (hx : x < 0) : cv_ln fs sc n (cv_pm x) = 0 := by
  unfold cv_pm
  rw [if_pos hx]
  exact cv_ln_id fs sc n hn 0 (fun i _ => b_0 i)
end
