def cv_bp (p : Nat) : Int32 := (1 : Int32) <<< (nI p &&& 31)
theorem cv_b1 : ∀ i, i < 32 → bt 1 i = decide (i = 0) := by decide +kernel
theorem cv_bpb {p i : Nat} (hp : p < 32) (hi : i < 32) : bt (cv_bp p) i = decide (i = p) := by
  unfold cv_bp
  rw [b_shl p hp 1 hi, cv_b1 _ (by omega)]
  by_cases h : i = p
  · simp [h]
  · by_cases h2 : p ≤ i
    · have : ¬ i - p = 0 := by omega
      simp [h, this]
    · simp [h, h2]
theorem cv_and1 (y : Int32) : y &&& 1 = 1 ↔ bt y 0 = true := by
  rw [pk_and y (m := 1) 1 (by decide)]
  have h : bt y 0 = decide (y.toBitVec.toNat % 2 = 1) := Nat.testBit_zero _
  rw [h, show (1 : Int32) = nI 1 from rfl, nI_eq (by omega) (by omega), decide_eq_true_iff]
theorem cv_bit (s : Int32) {d : Nat} (hd : d < 32) : ((s >>> (nI d &&& 31)) &&& 1) = 1 ↔ bt s d = true := by
  rw [cv_and1, b_sshr d hd s (by omega), Nat.add_zero, if_pos hd]
def cv_o2 (x s : Int32) : Int32 := if x < 0 then s else s ||| ((1 : Int32) <<< (x &&& 31))
def cv_st (fs sc : Nat → Int32) (d : Nat) (s : Int32) : Int32 := if ((s >>> (nI d &&& 31)) &&& 1) = 1 then cv_o2 (sc d) (cv_o2 (fs d) s) else s
def cv_ln (fs sc : Nat → Int32) : Nat → Int32 → Int32
  | 0, s => s
  | d + 1, s => cv_ln fs sc d (cv_st fs sc d s)
def cv_line (fs sc : Nat → Int32) (c : Nat) : Int32 := cv_ln fs sc (c + 1) (cv_bp c)
def cv_pm (x : Int32) : Int32 := if x < 0 then 0 else (1 : Int32) <<< (x &&& 31)
theorem cv_o2b (x s : Int32) (i : Nat) : bt (cv_o2 x s) i = (bt s i || bt (cv_pm x) i) := by
  unfold cv_o2 cv_pm
  by_cases h : x < 0
  · rw [if_pos h, if_pos h, b_0, Bool.or_false]
  · rw [if_neg h, if_neg h, b_or]
theorem cv_stb (fs sc : Nat → Int32) {d : Nat} (hd : d < 32) (s : Int32) (i : Nat) : bt (cv_st fs sc d s) i = (bt s i || (bt s d && (bt (cv_pm (fs d)) i || bt (cv_pm (sc d)) i))) := by
  unfold cv_st
  by_cases h : ((s >>> (nI d &&& 31)) &&& 1) = 1
  · rw [if_pos h, cv_o2b, cv_o2b, (cv_bit s hd).mp h, Bool.true_and, Bool.or_assoc]
  · have h2 : bt s d = false := by
      cases z : bt s d
      · rfl
      · exact absurd ((cv_bit s hd).mpr z) h
    rw [if_neg h, h2, Bool.false_and, Bool.or_false]
theorem cv_st_or (fs sc : Nat → Int32) {d : Nat} (hd : d < 32) (s t : Int32) : cv_st fs sc d (s ||| t) = cv_st fs sc d s ||| cv_st fs sc d t := by
  apply b_ext
  intro i _
  rw [b_or, cv_stb fs sc hd, cv_stb fs sc hd, cv_stb fs sc hd, b_or, b_or]
  generalize bt s i = p
  generalize bt t i = q
  generalize bt s d = r
  generalize bt t d = u
  generalize (bt (cv_pm (fs d)) i || bt (cv_pm (sc d)) i) = w
  revert p q r u w
  decide
theorem cv_ln_or (fs sc : Nat → Int32) : ∀ d, d ≤ 32 → ∀ s t : Int32, cv_ln fs sc d (s ||| t) = cv_ln fs sc d s ||| cv_ln fs sc d t
  | 0, _, _, _ => rfl
  | d + 1, hd, s, t => by
    unfold cv_ln
    rw [cv_st_or fs sc (by omega), cv_ln_or fs sc d (by omega)]
theorem cv_st_id (fs sc : Nat → Int32) {d : Nat} (hd : d < 32) {s : Int32} (h : bt s d = false) : cv_st fs sc d s = s := by
  apply b_ext
  intro i _
  rw [cv_stb fs sc hd, h, Bool.false_and, Bool.or_false]
theorem cv_ln_id (fs sc : Nat → Int32) : ∀ d, d ≤ 32 → ∀ s : Int32, (∀ i, i < d → bt s i = false) → cv_ln fs sc d s = s
  | 0, _, _, _ => rfl
  | d + 1, hd, s, h => by
    unfold cv_ln
    rw [cv_st_id fs sc (by omega) (h d (by omega))]
    exact cv_ln_id fs sc d (by omega) s (fun i hi => h i (by omega))
theorem cv_ln_sk (fs sc : Nat → Int32) {p : Nat} : ∀ d, d ≤ 32 → p < d → cv_ln fs sc d (cv_bp p) = cv_line fs sc p
  | 0, _, h => absurd h (Nat.not_lt_zero p)
  | d + 1, hd, h => by
    by_cases e : d = p
    · subst e
      rfl
    · have h2 : p < d := by omega
      unfold cv_ln
      rw [cv_st_id fs sc (by omega) (by rw [cv_bpb (by omega) (by omega)]; exact decide_eq_false e)]
      exact cv_ln_sk fs sc d (by omega) h2
theorem cv_ln_cg {fs sc fs' sc' : Nat → Int32} : ∀ d (s : Int32), (∀ c, c < d → fs c = fs' c ∧ sc c = sc' c) → cv_ln fs sc d s = cv_ln fs' sc' d s
  | 0, _, _ => rfl
  | d + 1, s, h => by
    unfold cv_ln
    have e : cv_st fs sc d s = cv_st fs' sc' d s := by
      unfold cv_st
      rw [(h d (by omega)).1, (h d (by omega)).2]
    rw [e]
    exact cv_ln_cg d _ (fun c hc => h c (by omega))
theorem cv_line_cg {fs sc fs' sc' : Nat → Int32} (c : Nat) (h : ∀ d, d < c + 1 → fs d = fs' d ∧ sc d = sc' d) : cv_line fs sc c = cv_line fs' sc' c := cv_ln_cg (c + 1) _ h
theorem cv_pmN {h : Nat} (hh : h < 32) : cv_pm (nI h) = cv_bp h := by
  unfold cv_pm cv_bp
  rw [if_neg (nI_pos (by omega))]
theorem cv_or0 (s : Int32) : s ||| 0 = s := by
  apply b_ext
  intro i _
  rw [b_or, b_0, Bool.or_false]
/-- what the line of a commit is that has just been made -/
theorem cv_line_new (fs sc : Nat → Int32) {n h : Nat} (hn : n < 32) (hh : h < n) (e : fs n = nI h) : cv_line fs sc n = (cv_bp n ||| cv_line fs sc h) ||| cv_ln fs sc n (cv_pm (sc n)) := by
  have e2 : cv_st fs sc n (cv_bp n) = (cv_bp n ||| cv_bp h) ||| cv_pm (sc n) := by
    apply b_ext
    intro i hi
    rw [cv_stb fs sc hn, cv_bpb hn hn, b_or, b_or, e, cv_pmN (by omega)]
    simp [Bool.or_assoc]
  show cv_ln fs sc n (cv_st fs sc n (cv_bp n)) = _
  rw [e2, cv_ln_or fs sc n (by omega), cv_ln_or fs sc n (by omega), cv_ln_sk fs sc n (by omega) hh, cv_ln_id fs sc n (by omega) (cv_bp n) (fun i hi => by rw [cv_bpb hn (by omega)]; exact decide_eq_false (by omega))]
theorem cv_line_0 (fs sc : Nat → Int32) (h0 : fs 0 < 0) (h1 : sc 0 < 0) : cv_line fs sc 0 = 1 := by
  show cv_st fs sc 0 (cv_bp 0) = 1
  unfold cv_st cv_o2
  rw [if_pos h1, if_pos h0, ite_self]
  decide
theorem cv_ln_m1 (fs sc : Nat → Int32) {n : Nat} (hn : n ≤ 32) {x : Int32} (hx : x < 0) : cv_ln fs sc n (cv_pm x) = 0 := by
  unfold cv_pm
  rw [if_pos hx]
  exact cv_ln_id fs sc n hn 0 (fun i _ => b_0 i)
