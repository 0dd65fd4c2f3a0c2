theorem pk_us {f : Nat → Int32} {k : Nat} {x : Int32} : upd f k x k = x := if_pos rfl
theorem pk_un {f : Nat → Int32} {k j : Nat} {x : Int32} (h : j ≠ k) : upd f k x j = f j := if_neg h
theorem pk_uLs {f : Nat → Int64} {k : Nat} {x : Int64} : vp_updL f k x k = x := if_pos rfl
theorem pk_uLn {f : Nat → Int64} {k j : Nat} {x : Int64} (h : j ≠ k) : vp_updL f k x j = f j := if_neg h
theorem pk_sub {a b : Nat} (h : b ≤ a) : nI a - nI b = nI (a - b) := by
  obtain ⟨c, rfl⟩ : ∃ c, a = c + b := ⟨a - b, by omega⟩
  rw [← nI_add, Int32.add_sub_cancel, Nat.add_sub_cancel]
theorem pk_m1 (n : Nat) : nI (n + 1) + (-1) = nI n := by
  rw [← nI_1, Int32.add_assoc, show (1 : Int32) + (-1) = 0 from rfl, Int32.add_zero]
theorem pk_mul (a b : Nat) : nI a * nI b = nI (a * b) := (Int32.ofNat_mul a b).symm
theorem pk_ix (x : Int32) {n : Nat} (hn : n < 2 ^ 31) : x < 0 ∨ nI n ≤ x ∨ ∃ j : Nat, j < n ∧ x = nI j := by
  by_cases h : x < 0
  · exact Or.inl h
  · obtain ⟨j, hj, rfl⟩ := nI_of h
    by_cases h2 : j < n
    · exact Or.inr (Or.inr ⟨j, h2, rfl⟩)
    · exact Or.inr (Or.inl (nI_le (by omega) hj))
theorem pk_le {x y : Int32} {A B : Prop} (a b : Nat) (f : a ≤ b → A) (g : b < a → B) (hx : x = nI a := by rfl) (hy : y = nI b := by rfl) (ha : a < 2 ^ 31 := by omega) (hb : b < 2 ^ 31 := by omega) : (x ≤ y → A) ∧ (¬ x ≤ y → B) := by
  subst hx hy
  rw [nI_leI ha hb]
  exact ⟨f, fun z => g (by omega)⟩
theorem pk_lt {x y : Int32} {A B : Prop} (a b : Nat) (f : a < b → A) (g : b ≤ a → B) (hx : x = nI a := by rfl) (hy : y = nI b := by rfl) (ha : a < 2 ^ 31 := by omega) (hb : b < 2 ^ 31 := by omega) : (x < y → A) ∧ (¬ x < y → B) := by
  subst hx hy
  rw [nI_ltI ha hb]
  exact ⟨f, fun z => g (by omega)⟩
theorem pk_eq {x y : Int32} {A B : Prop} (a b : Nat) (f : a = b → A) (g : a ≠ b → B) (hx : x = nI a := by rfl) (hy : y = nI b := by rfl) (ha : a < 2 ^ 31 := by omega) (hb : b < 2 ^ 31 := by omega) : (x = y → A) ∧ (¬ x = y → B) := by
  subst hx hy
  rw [nI_eq ha hb]
  exact ⟨f, g⟩
theorem pk_in {x : Int32} (n N : Nat) (h : n < N) (hx : x = nI n := by rfl) (hN : N < 2 ^ 31 := by omega) : vp_in x N := by
  subst hx
  exact vp_in_nI h hN
theorem pk_cl {x : Int32} (n : Nat) (hx : x = nI n := by rfl) (h : n < 2 ^ 31 := by omega) : x.toNatClampNeg = n := by
  subst hx
  exact nI_clamp h
/-! my own pure rows -/
def qu_p {α : Type} (f : Nat → α) (k : Nat) (x : α) : Nat → α := fun j => if j = k then x else f j
theorem qu_s {α : Type} {f : Nat → α} {k : Nat} {x : α} : qu_p f k x k = x := if_pos rfl
theorem qu_n {α : Type} {f : Nat → α} {k j : Nat} {x : α} (h : j ≠ k) : qu_p f k x j = f j := if_neg h
theorem qu_L {f : Nat → Int64} {k : Nat} {x : Int64} : vp_updL f k x = qu_p f k x := rfl
theorem qu_I {f : Nat → Int32} {k : Nat} {x : Int32} : upd f k x = qu_p f k x := rfl
def qn_F (f : Nat → Nat) : Nat → Int32 := fun i => nI (f i)
def qb_i (b : Bool) : Int32 := if b = true then 1 else 0
def qb_F (f : Nat → Bool) : Nat → Int32 := fun i => qb_i (f i)
theorem qn_at (f : Nat → Nat) (i : Nat) : qn_F f i = nI (f i) := rfl
theorem qb_at (f : Nat → Bool) (i : Nat) : qb_F f i = qb_i (f i) := rfl
theorem qb_it : qb_i true = 1 := rfl
theorem qb_if : qb_i false = 0 := rfl
theorem qb_nar (b : Bool) : vp_nar .boolean (qb_i b) = qb_i b := by cases b <;> decide
theorem qb_nar1 : vp_nar .boolean 1 = qb_i true := by decide
theorem qb_nar0 : vp_nar .boolean 0 = qb_i false := by decide
theorem qb_z {b : Bool} : qb_i b = 0 ↔ b = false := by cases b <;> decide
theorem qn_U {f : Nat → Nat} {k v : Nat} : upd (qn_F f) k (nI v) = qn_F (qu_p f k v) := by
  funext j
  show (if j = k then nI v else nI (f j)) = nI (if j = k then v else f j)
  split <;> rfl
theorem qb_U {f : Nat → Bool} {k : Nat} {v : Bool} : upd (qb_F f) k (qb_i v) = qb_F (qu_p f k v) := by
  funext j
  show (if j = k then qb_i v else qb_i (f j)) = qb_i (if j = k then v else f j)
  split <;> rfl
theorem qb_br {b : Bool} {A B : Prop} (f : b = false → A) (g : b = true → B) : (qb_i b = 0 → A) ∧ (¬ qb_i b = 0 → B) := by
  cases b
  · exact ⟨fun _ => f rfl, fun h => absurd rfl h⟩
  · exact ⟨fun h => absurd h (by decide), fun _ => g rfl⟩
theorem qb_bz (v : Int32) : ∃ b : Bool, lw_bz v = qb_i b := by
  rcases lw_bz_01 v with h | h
  · exact ⟨false, h⟩
  · exact ⟨true, h⟩
theorem qi_12 (s p : Nat) : nI s * 12 + nI p = nI (12 * s + p) := by
  rw [show (12 : Int32) = nI 12 from rfl, pk_mul, nI_add, Nat.mul_comm]
theorem qi_12' (s : Nat) : nI s * 12 = nI (12 * s) := by
  rw [show (12 : Int32) = nI 12 from rfl, pk_mul, Nat.mul_comm]
theorem qi_3 (s p : Nat) : nI s * 3 + nI p = nI (3 * s + p) := by
  rw [show (3 : Int32) = nI 3 from rfl, pk_mul, nI_add, Nat.mul_comm]
theorem qi_64 (s p : Nat) : nI s * 64 + nI p = nI (64 * s + p) := by
  rw [show (64 : Int32) = nI 64 from rfl, pk_mul, nI_add, Nat.mul_comm]
/-! bits -/
def qm_b (k : Nat) : Int64 := (1 : Int64) <<< ((nI k).toInt64 &&& 63)
theorem qm_d (k : Nat) : (1 : Int64) <<< ((nI k).toInt64 &&& 63) = qm_b k := rfl
theorem qm_tp : ∀ k, k < 64 → (qm_b k).toBitVec = BitVec.twoPow 64 k := by decide +kernel
theorem qm_tz : ∀ k, k < 64 → BitVec.twoPow 64 k ≠ 0#64 := by decide +kernel
def qm_s (wk : Nat → Nat) (b : Nat) : Nat → Int64
  | 0 => 0
  | n + 1 => qm_s wk b n ||| qm_b (wk (b + n))
theorem qm_bit {wk : Nat → Nat} {b j : Nat} (hj : j < 64) : ∀ n, (∀ p, p < n → wk (b + p) < 64) → ((qm_s wk b n).toBitVec.getLsbD j = true ↔ ∃ p, p < n ∧ wk (b + p) = j) := by
  intro n
  induction n with
  | zero =>
    intro _
    constructor
    · intro h
      rw [show (qm_s wk b 0).toBitVec = 0#64 from rfl, BitVec.getLsbD_zero] at h
      exact absurd h (by decide)
    · rintro ⟨p, hp, _⟩
      omega
  | succ n ih =>
    intro hk
    have e : (qm_s wk b (n + 1)).toBitVec = (qm_s wk b n).toBitVec ||| (qm_b (wk (b + n))).toBitVec := rfl
    have h0 := hk n (by omega)
    rw [e, qm_tp _ h0, BitVec.getLsbD_or, BitVec.getLsbD_twoPow, Bool.or_eq_true, ih (fun p hp => hk p (by omega))]
    constructor
    · rintro (⟨p, hp, e⟩ | h)
      · exact ⟨p, by omega, e⟩
      · refine ⟨n, by omega, ?_⟩
        simp at h
        omega
    · rintro ⟨p, hp, e⟩
      by_cases h : p = n
      · subst h
        right
        simp
        omega
      · exact Or.inl ⟨p, by omega, e⟩
theorem qm_and {x : Int64} {j : Nat} (hj : j < 64) : (x &&& qm_b j) = 0 ↔ x.toBitVec.getLsbD j = false := by
  rw [← Int64.toBitVec_inj, Int64.toBitVec_and, qm_tp j hj, BitVec.and_twoPow]
  show _ = 0#64 ↔ _
  cases hb : x.toBitVec.getLsbD j
  · exact ⟨fun _ => rfl, fun _ => by simp⟩
  · constructor
    · intro h
      exact absurd (by simpa using h) (qm_tz j hj)
    · intro h
      exact absurd h (by decide)
/-- the session whose writes lie from b has written key, among its first n -/
def qw_W (wk : Nat → Nat) (b key : Nat) : Nat → Bool
  | 0 => false
  | n + 1 => qw_W wk b key n || decide (wk (b + n) = key)
theorem qw_iff {wk : Nat → Nat} {b key : Nat} : ∀ n, qw_W wk b key n = true ↔ ∃ p, p < n ∧ wk (b + p) = key := by
  intro n
  induction n with
  | zero => exact ⟨fun h => absurd h (by simp [qw_W]), fun ⟨p, hp, _⟩ => by omega⟩
  | succ n ih =>
    rw [qw_W, Bool.or_eq_true, ih, decide_eq_true_iff]
    constructor
    · rintro (⟨p, hp, e⟩ | h)
      · exact ⟨p, by omega, e⟩
      · exact ⟨n, by omega, h⟩
    · rintro ⟨p, hp, e⟩
      by_cases h : p = n
      · exact Or.inr (h ▸ e)
      · exact Or.inl ⟨p, by omega, e⟩
theorem qw_bit {wk : Nat → Nat} {b j n : Nat} (hj : j < 64) (hk : ∀ p, p < n → wk (b + p) < 64) : (qm_s wk b n).toBitVec.getLsbD j = qw_W wk b j n := by
  rw [Bool.eq_iff_iff, qm_bit hj n hk, qw_iff]
theorem qw_and {wk : Nat → Nat} {b j n : Nat} (hj : j < 64) (hk : ∀ p, p < n → wk (b + p) < 64) : (qm_s wk b n &&& qm_b j) = 0 ↔ qw_W wk b j n = false := by
  rw [qm_and hj, qw_bit hj hk]
/-- the last of n writes to key, or d -/
def ql_l (wk : Nat → Nat) (v : Nat → Int64) (b key : Nat) (d : Int64) : Nat → Int64
  | 0 => d
  | n + 1 => if wk (b + n) = key then v (b + n) else ql_l wk v b key d n
theorem ql_c {wk : Nat → Nat} {v w : Nat → Int64} {b key : Nat} {d : Int64} : ∀ n, (∀ p, p < n → v (b + p) = w (b + p)) → ql_l wk v b key d n = ql_l wk w b key d n := by
  intro n
  induction n with
  | zero => intro _; rfl
  | succ n ih =>
    intro h
    rw [ql_l, ql_l, ih (fun p hp => h p (by omega)), h n (by omega)]
def qv_v (t : Nat → Bool) (v : Nat → Int32) (i : Nat) : Int64 := if t i = true then (v i).toInt64 else 1000000000000
/-- the row of key as of commit m, by the first n writes of the history -/
def qa_f (hc hk : Nat → Nat) (v : Nat → Int64) (m key : Nat) : Nat → Int64
  | 0 => 1000000000000
  | n + 1 => if hc n ≤ m ∧ hk n = key then v n else qa_f hc hk v m key n
theorem qa_c {hc hk hc' hk' : Nat → Nat} {v v' : Nat → Int64} {m key : Nat} : ∀ n, (∀ i, i < n → hc' i = hc i ∧ hk' i = hk i ∧ v' i = v i) → qa_f hc' hk' v' m key n = qa_f hc hk v m key n := by
  intro n
  induction n with
  | zero => intro _; rfl
  | succ n ih =>
    intro h
    obtain ⟨a, b, c⟩ := h n (by omega)
    rw [qa_f, qa_f, ih (fun i hi => h i (by omega)), a, b, c]
theorem qa_m {hc hk : Nat → Nat} {v : Nat → Int64} {m m' key : Nat} : ∀ n, (∀ i, i < n → (hc i ≤ m ↔ hc i ≤ m')) → qa_f hc hk v m key n = qa_f hc hk v m' key n := by
  intro n
  induction n with
  | zero => intro _; rfl
  | succ n ih =>
    intro h
    rw [qa_f, qa_f, ih (fun i hi => h i (by omega))]
    simp only [h n (by omega)]
theorem qa_ext {hc hk : Nat → Nat} {v : Nat → Int64} {m key n : Nat} : ∀ d, (∀ i, n ≤ i → i < n + d → m < hc i) → qa_f hc hk v m key (n + d) = qa_f hc hk v m key n := by
  intro d
  induction d with
  | zero => intro _; rfl
  | succ d ih =>
    intro h
    have h1 := h (n + d) (by omega) (by omega)
    rw [← Nat.add_assoc, qa_f, if_neg (by omega), ih (fun i hi hj => h i hi (by omega))]
/-- how many below n -/
def qc_c (P : Nat → Bool) : Nat → Nat
  | 0 => 0
  | n + 1 => qc_c P n + (if P n = true then 1 else 0)
theorem qc_le (P : Nat → Bool) : ∀ n, qc_c P n ≤ n := by
  intro n
  induction n with
  | zero => exact Nat.le_refl 0
  | succ n ih => rw [qc_c]; split <;> omega
theorem qc_cg {P Q : Nat → Bool} : ∀ n, (∀ i, i < n → P i = Q i) → qc_c P n = qc_c Q n := by
  intro n
  induction n with
  | zero => intro _; rfl
  | succ n ih => intro h; rw [qc_c, qc_c, ih (fun i hi => h i (by omega)), h n (by omega)]
theorem qc_rm {Q : Nat → Bool} {j : Nat} (hj : Q j = true) : ∀ m, j < m → qc_c Q m = qc_c (qu_p Q j false) m + 1 := by
  intro m
  induction m with
  | zero => intro h; omega
  | succ m ih =>
    intro h
    by_cases e : j = m
    · subst e
      rw [qc_c, qc_c, hj, qu_s, qc_cg (P := qu_p Q j false) (Q := Q) j (fun i hi => qu_n (by omega))]
      simp
    · rw [qc_c, qc_c, ih (by omega), qu_n (Ne.symm e)]
      omega
theorem qc_0 {Q : Nat → Bool} : ∀ m, (∀ j, j < m → Q j = false) → qc_c Q m = 0 := by
  intro m
  induction m with
  | zero => intro _; rfl
  | succ m ih => intro h; rw [qc_c, ih (fun j hj => h j (by omega)), h m (by omega)]; rfl
theorem qc_bij {P : Nat → Bool} {f : Nat → Nat} {m : Nat} : ∀ n (Q : Nat → Bool), (∀ i, i < n → P i = true → f i < m ∧ Q (f i) = true) → (∀ i i', i < n → i' < n → P i = true → P i' = true → f i = f i' → i = i') → (∀ j, j < m → Q j = true → ∃ i, i < n ∧ P i = true ∧ f i = j) → qc_c P n = qc_c Q m := by
  intro n
  induction n with
  | zero =>
    intro Q _ _ h
    rw [qc_0 (Q := Q) m]
    · rfl
    · intro j hj
      cases hq : Q j
      · rfl
      · obtain ⟨i, hi, _⟩ := h j hj hq
        omega
  | succ n ih =>
    intro Q h1 h2 h3
    cases hp : P n
    · rw [qc_c, hp]
      show qc_c P n + 0 = _
      refine ih Q (fun i hi => h1 i (by omega)) (fun i i' hi hi' => h2 i i' (by omega) (by omega)) (fun j hj hq => ?_)
      obtain ⟨i, hi, hpi, e⟩ := h3 j hj hq
      refine ⟨i, ?_, hpi, e⟩
      rcases Nat.lt_or_ge i n with h | h
      · exact h
      · have : i = n := by omega
        subst this
        rw [hp] at hpi
        exact absurd hpi (by decide)
    · obtain ⟨a, b⟩ := h1 n (by omega) hp
      rw [qc_c, hp, qc_rm b m a]
      show qc_c P n + 1 = _
      refine congrArg (· + 1) (ih (qu_p Q (f n) false) (fun i hi hpi => ?_) (fun i i' hi hi' => h2 i i' (by omega) (by omega)) (fun j hj hq => ?_))
      · obtain ⟨c, d⟩ := h1 i (by omega) hpi
        refine ⟨c, ?_⟩
        rw [qu_n]
        · exact d
        · intro e
          have := h2 i n (by omega) (by omega) hpi hp e
          omega
      · by_cases e : j = f n
        · subst e
          rw [qu_s] at hq
          exact absurd hq (by decide)
        · rw [qu_n e] at hq
          obtain ⟨i, hi, hpi, ei⟩ := h3 j hj hq
          refine ⟨i, ?_, hpi, ei⟩
          rcases Nat.lt_or_ge i n with h | h
          · exact h
          · have : i = n := by omega
            subst this
            exact absurd ei.symm e
/-- those that hold come first -/
theorem qc_pre {P : Nat → Bool} : ∀ n, (∀ i j, i ≤ j → j < n → P j = true → P i = true) → ∀ i, i < n → (P i = true ↔ i < qc_c P n) := by
  intro n
  induction n with
  | zero => intro _ i hi; omega
  | succ n ih =>
    intro h i hi
    cases hp : P n
    · rw [qc_c, hp]
      show _ ↔ i < qc_c P n + 0
      by_cases e : i = n
      · subst e
        rw [hp]
        have := qc_le P i
        constructor
        · intro h; exact absurd h (by decide)
        · intro h; omega
      · exact ih (fun i j a b => h i j a (by omega)) i (by omega)
    · rw [qc_c, hp]
      have hall : ∀ m, m ≤ n + 1 → qc_c P m = m := by
        intro m
        induction m with
        | zero => intro _; rfl
        | succ m im => intro hm; rw [qc_c, im (by omega), h m n (by omega) (by omega) hp]; rfl
      rw [hall n (by omega)]
      show _ ↔ i < n + 1
      exact ⟨fun _ => hi, fun _ => h i n (by omega) (by omega) hp⟩
/-- bits counted by clearing the lowest -/
def qp_c : Nat → Nat → Nat
  | 0, _ => 0
  | n + 1, y => y % 2 + qp_c n (y / 2)
theorem qp_and2 (a b : Nat) : (a &&& b) % 2 = (a % 2) * (b % 2) ∧ (a &&& b) / 2 = (a / 2) &&& (b / 2) := by
  constructor
  · have h : (a &&& b).testBit 0 = (a.testBit 0 && b.testBit 0) := Nat.testBit_and a b 0
    rw [Nat.testBit_zero, Nat.testBit_zero, Nat.testBit_zero] at h
    rcases Nat.mod_two_eq_zero_or_one a with ha | ha <;> rcases Nat.mod_two_eq_zero_or_one b with hb | hb <;> rcases Nat.mod_two_eq_zero_or_one (a &&& b) with hc | hc <;> rw [ha, hb, hc] at h <;> rw [ha, hb, hc] <;> simp at h <;> rfl
  · exact Nat.and_div_two
theorem qp_clr : ∀ n y, 0 < y → y < 2 ^ n → qp_c n (y &&& (y - 1)) + 1 = qp_c n y := by
  intro n
  induction n with
  | zero => intro y h0 h1; rw [Nat.pow_zero] at h1; omega
  | succ n ih =>
    intro y h0 h1
    obtain ⟨e1, e2⟩ := qp_and2 y (y - 1)
    rw [qp_c, qp_c, e1, e2]
    rw [Nat.pow_succ] at h1
    rcases Nat.mod_two_eq_zero_or_one y with hy | hy
    · have : (y - 1) / 2 = y / 2 - 1 := by omega
      rw [hy, this, ← ih (y / 2) (by omega) (by omega)]
      omega
    · have : (y - 1) / 2 = y / 2 := by omega
      rw [hy, this, Nat.and_self, show (y - 1) % 2 = 0 by omega]
      omega
theorem qc_sh (P : Nat → Bool) : ∀ n, qc_c P (n + 1) = (if P 0 = true then 1 else 0) + qc_c (fun i => P (i + 1)) n := by
  intro n
  induction n with
  | zero => rw [qc_c, qc_c, qc_c]; omega
  | succ n ih => rw [qc_c, ih, qc_c]; omega
theorem qp_cnt : ∀ n y, qp_c n y = qc_c (fun i => y.testBit i) n := by
  intro n
  induction n with
  | zero => intro y; rfl
  | succ n ih =>
    intro y
    rw [qp_c, ih, qc_sh]
    congr 1
    · rw [Nat.testBit_zero]
      rcases Nat.mod_two_eq_zero_or_one y with h | h <;> rw [h] <;> rfl
    · refine qc_cg n (fun i _ => ?_)
      rw [Nat.testBit_succ]
