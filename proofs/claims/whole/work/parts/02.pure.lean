def cv_i (b : Bool) : Int32 := match b with
  | true => 1
  | false => 0
theorem cv_br {b : Bool} {A B : Prop} (f : b = false → A) (t : b = true → B) : (cv_i b = 0 → A) ∧ (¬ cv_i b = 0 → B) := by
  cases b
  · exact br_t rfl (f rfl)
  · exact br_f (by decide) (t rfl)
/-- two maps agree on a key, as the component reads it -/
def cv_ag (P V : Nat → Int32) (a b k : Nat) : Bool := decide (P (64 * a + k) = P (64 * b + k)) && decide (V (64 * a + k) = V (64 * b + k))
def cv_cf (P V : Nat → Int32) (o a b k : Nat) : Bool := !cv_ag P V a b k && !cv_ag P V a o k && !cv_ag P V b o k
def cv_ct (q : Nat → Bool) : Nat → Int32
  | 0 => 0
  | i + 1 => match q i with
    | true => cv_ct q i + 1
    | false => cv_ct q i
theorem cv_ct_t {q : Nat → Bool} {i : Nat} (h : q i = true) : cv_ct q i + 1 = cv_ct q (i + 1) := by simp only [cv_ct, h]
theorem cv_ct_f {q : Nat → Bool} {i : Nat} (h : q i = false) : cv_ct q i = cv_ct q (i + 1) := by simp only [cv_ct, h]
/-- the greatest bit below 20 that is set, or 0 -/
def cv_gc (m : Int32) : Nat → Nat
  | 0 => 0
  | i + 1 => if ((m >>> (nI i &&& 31)) &&& 1) = 1 then i else cv_gc m i
theorem cv_gc_le (m : Int32) : ∀ i, cv_gc m i ≤ i
  | 0 => Nat.le_refl 0
  | i + 1 => by
    have := cv_gc_le m i
    unfold cv_gc
    split <;> omega
theorem cv_gc_lt (m : Int32) : cv_gc m 20 < 20 := by
  have := cv_gc_le m 19
  unfold cv_gc
  split <;> omega
def cv_an (m : Int32) : Nat → Int32
  | 0 => 0
  | i + 1 => cv_an m i + ((m >>> (nI i &&& 31)) &&& 1)
/-- cells t*64 .. t*64+i-1 filled from the cells that g names -/
def cv_mx (A : Nat → Int32) (g : Nat → Nat) (t i : Nat) : Nat → Int32 := fun j => if 64 * t ≤ j ∧ j < 64 * t + i then A (g (j - 64 * t)) else A j
theorem cv_mx_0 (A : Nat → Int32) (g : Nat → Nat) (t : Nat) : cv_mx A g t 0 = A := by
  funext j
  unfold cv_mx
  rw [if_neg (by omega)]
theorem cv_mx_o {A : Nat → Int32} {g : Nat → Nat} {t i j : Nat} (h : j < 64 * t ∨ 64 * t + i ≤ j) : cv_mx A g t i j = A j := by
  unfold cv_mx
  rw [if_neg (by omega)]
theorem cv_mx_i {A : Nat → Int32} {g : Nat → Nat} {t i k : Nat} (h : k < i) : cv_mx A g t i (64 * t + k) = A (g k) := by
  unfold cv_mx
  rw [if_pos (by omega)]
  exact congrArg (fun z => A (g z)) (by omega)
theorem cv_mx_s {A : Nat → Int32} {g : Nat → Nat} {t i : Nat} (hi : i < 64) (hg : g i < 64 * t ∨ 64 * t + 64 ≤ g i) : upd (cv_mx A g t i) (64 * t + i) (cv_mx A g t i (g i)) = cv_mx A g t (i + 1) := by
  rw [cv_mx_o (by omega)]
  funext j
  unfold upd
  by_cases h : j = 64 * t + i
  · rw [if_pos h, h, cv_mx_i (Nat.lt_succ_self i)]
  · rw [if_neg h]
    unfold cv_mx
    by_cases h2 : 64 * t ≤ j ∧ j < 64 * t + i
    · rw [if_pos h2, if_pos (by omega)]
    · rw [if_neg h2, if_neg (by omega)]
/-- the cells of both sides -/
def cv_R (P V T W : Nat → Int32) : Prop := ∀ j, j < 1344 → T j = P j ∧ (P j = 0 ∨ P j = 1) ∧ (P j = 0 → V j = 0) ∧ (¬ P j = 0 → W j = V j)
theorem cv_nb {x : Int32} (h : x = 0 ∨ x = 1) : vp_nar .boolean x = x := by
  rcases h with h | h <;> rw [h] <;> decide
theorem cv_n1 : vp_nar .boolean 1 = 1 := cv_nb (Or.inr rfl)
theorem cv_n0 : vp_nar .boolean 0 = 0 := cv_nb (Or.inl rfl)
theorem cv_R_put {P V T W : Nat → Int32} (R : cv_R P V T W) (c : Nat) (x : Int32) : cv_R (upd P c 1) (upd V c x) (upd T c 1) (upd W c x) := by
  intro j hj
  by_cases h : j = c
  · subst h
    rw [pk_us, pk_us, pk_us, pk_us]
    exact ⟨rfl, Or.inr rfl, fun z => absurd z (by decide), fun _ => rfl⟩
  · rw [pk_un h, pk_un h, pk_un h, pk_un h]
    exact R j hj
theorem cv_R_del {P V T W : Nat → Int32} (R : cv_R P V T W) (c : Nat) : cv_R (upd P c 0) (upd V c 0) (upd T c 0) W := by
  intro j hj
  by_cases h : j = c
  · subst h
    rw [pk_us, pk_us, pk_us]
    exact ⟨rfl, Or.inl rfl, fun _ => rfl, fun z => absurd rfl z⟩
  · rw [pk_un h, pk_un h, pk_un h]
    exact R j hj
theorem cv_R_cp {P V T W : Nat → Int32} (R : cv_R P V T W) (g : Nat → Nat) (t : Nat) (hg : ∀ k, k < 64 → g k < 1344) : cv_R (cv_mx P g t 64) (cv_mx V g t 64) (cv_mx T g t 64) (cv_mx W g t 64) := by
  intro j hj
  unfold cv_mx
  by_cases h : 64 * t ≤ j ∧ j < 64 * t + 64
  · simp only [if_pos h]
    exact R _ (hg _ (by omega))
  · simp only [if_neg h]
    exact R j hj
/-- the merge: the component writes into map 20, the reference into map 21 and then from there into map 20; where the sources differ their cells agree -/
theorem cv_R_bl {P V T W : Nat → Int32} (R : cv_R P V T W) (gx gy : Nat → Nat) (hy : ∀ k, k < 64 → gy k < 1344) (hp : ∀ k, k < 64 → P (gx k) = P (gy k)) (hv : ∀ k, k < 64 → V (gx k) = V (gy k)) :
    cv_R (cv_mx P gx 20 64) (cv_mx V gx 20 64) (cv_mx (cv_mx T gy 21 64) (fun k => 64 * 21 + k) 20 64) (cv_mx (cv_mx W gy 21 64) (fun k => 64 * 21 + k) 20 64) := by
  intro j hj
  by_cases h : 64 * 20 ≤ j
  · obtain ⟨k, rfl⟩ : ∃ k, j = 64 * 20 + k := ⟨j - 64 * 20, by omega⟩
    have hk : k < 64 := by omega
    rw [cv_mx_i hk, cv_mx_i hk, cv_mx_i hk, cv_mx_i hk]
    rw [cv_mx_i hk, cv_mx_i hk, hp k hk, hv k hk]
    exact R _ (hy k hk)
  · have h' : j < 64 * 20 ∨ 64 * 20 + 64 ≤ j := by omega
    have h2 : j < 64 * 21 ∨ 64 * 21 + 64 ≤ j := by omega
    rw [cv_mx_o h', cv_mx_o h', cv_mx_o h', cv_mx_o h', cv_mx_o h2, cv_mx_o h2]
    exact R j hj
theorem cv_R_b {P V T W : Nat → Int32} (R : cv_R P V T W) {j : Nat} (hj : j < 1344) : P j = 0 ∨ P j = 1 := (R j hj).2.1
theorem cv_R_t {P V T W : Nat → Int32} (R : cv_R P V T W) {j : Nat} (hj : j < 1344) : T j = 0 ∨ T j = 1 := by rw [(R j hj).1]; exact (R j hj).2.1
theorem cv_cx (a k : Nat) : nI a * 64 + nI k = nI (64 * a + k) := by
  rw [show (64 : Int32) = nI 64 from rfl, pk_mul, nI_add, Nat.mul_comm a 64]
theorem cv_cy (a k : Nat) : 64 * nI a + nI k = nI (64 * a + k) := by
  rw [show (64 : Int32) = nI 64 from rfl, pk_mul, nI_add]
