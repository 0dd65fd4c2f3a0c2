section
theorem pk_us {f : Nat → Int32} {k : Nat} {x : Int32} : upd f k x k = x := if_pos rfl
theorem pk_un {f : Nat → Int32} {k j : Nat} {x : Int32} (h : j ≠ k) : upd f k x j = f j := if_neg h
theorem pk_uLs {f : Nat → Int64} {k : Nat} {x : Int64} : vp_updL f k x k = x := if_pos rfl
theorem pk_uLn {f : Nat → Int64} {k j : Nat} {x : Int64} (h : j ≠ k) : vp_updL f k x j = f j := if_neg h
theorem pk_sub {a b : Nat} (h : b ≤ a) : nI a - nI b = nI (a - b) := by
  obtain ⟨c, rfl⟩ : ∃ c, a = c + b := ⟨a - b, by omega⟩
  rw [← nI_add, Int32.add_sub_cancel, Nat.add_sub_cancel]
theorem pk_m1 (n : Nat) : nI (n + 1) + (-1) = nI n := by
  rw [← nI_1, Int32.add_assoc, show (1 : Int32) + (-1) = 0 from rfl, Int32.add_zero]
theorem pk_mul (a b : Nat) : nI a * nI b = nI (a * b) := (Int32.ofNat_mul a b).symm
theorem pk_ix (x : Int32) {n : Nat} (hn : n < 2 ^ 31) : x < 0 ∨ nI n ≤ x ∨ ∃ j : Nat, j < n ∧ x = nI j := by
  by_cases h : x < 0
  · exact Or.inl h
  · obtain ⟨j, hj, rfl⟩ := nI_of h
    by_cases h2 : j < n
    · exact Or.inr (Or.inr ⟨j, h2, rfl⟩)
    · exact Or.inr (Or.inl (nI_le (by omega) hj))
theorem pk_le {x y : Int32} {A B : Prop} (a b : Nat) (f : a ≤ b → A) (g : b < a → B) (hx : x = nI a := by rfl) (hy : y = nI b := by rfl) (ha : a < 2 ^ 31 := by omega) (hb : b < 2 ^ 31 := by omega) : (x ≤ y → A) ∧ (¬ x ≤ y → B) := by
  subst hx hy
  rw [nI_leI ha hb]
  exact ⟨f, fun z => g (by omega)⟩
theorem pk_lt {x y : Int32} {A B : Prop} (a b : Nat) (f : a < b → A) (g : b ≤ a → B) (hx : x = nI a := by rfl) (hy : y = nI b := by rfl) (ha : a < 2 ^ 31 := by omega) (hb : b < 2 ^ 31 := by omega) : (x < y → A) ∧ (¬ x < y → B) := by
  subst hx hy
  rw [nI_ltI ha hb]
  exact ⟨f, fun z => g (by omega)⟩
theorem pk_eq {x y : Int32} {A B : Prop} (a b : Nat) (f : a = b → A) (g : a ≠ b → B) (hx : x = nI a := by rfl) (hy : y = nI b := by rfl) (ha : a < 2 ^ 31 := by omega) (hb : b < 2 ^ 31 := by omega) : (x = y → A) ∧ (¬ x = y → B) := by
  subst hx hy
  rw [nI_eq ha hb]
  exact ⟨f, g⟩
theorem pk_in {x : Int32} (n N : Nat) (h : n < N) (hx : x = nI n := by rfl) (hN : N < 2 ^ 31 := by omega) : vp_in x N := by
  subst hx
  exact vp_in_nI h hN
theorem pk_cl {x : Int32} (n : Nat) (hx : x = nI n := by rfl) (h : n < 2 ^ 31 := by omega) : x.toNatClampNeg = n := by
  subst hx
  exact nI_clamp h
/-! my own pure rows -/
def qu_p {α : Type} (f : Nat → α) (k : Nat) (x : α) : Nat → α := fun j => if j = k then x else f j
theorem qu_s {α : Type} {f : Nat → α} {k : Nat} {x : α} : qu_p f k x k = x := if_pos rfl
theorem qu_n {α : Type} {f : Nat → α} {k j : Nat} {x : α} (h : j ≠ k) : qu_p f k x j = f j := if_neg h
theorem qu_L {f : Nat → Int64} {k : Nat} {x : Int64} : vp_updL f k x = qu_p f k x := rfl
theorem qu_I {f : Nat → Int32} {k : Nat} {x : Int32} : upd f k x = qu_p f k x := rfl
def qn_F (f : Nat → Nat) : Nat → Int32 := fun i => nI (f i)
def qb_i (b : Bool) : Int32 := if b = true then 1 else 0
def qb_F (f : Nat → Bool) : Nat → Int32 := fun i => qb_i (f i)
theorem qn_at (f : Nat → Nat) (i : Nat) : qn_F f i = nI (f i) := rfl
theorem qb_at (f : Nat → Bool) (i : Nat) : qb_F f i = qb_i (f i) := rfl
theorem qb_it : qb_i true = 1 := rfl
theorem qb_if : qb_i false = 0 := rfl
theorem qb_nar (b : Bool) : vp_nar .boolean (qb_i b) = qb_i b := by cases b <;> decide
theorem qb_nar1 : vp_nar .boolean 1 = qb_i true := by decide
theorem qb_nar0 : vp_nar .boolean 0 = qb_i false := by decide
theorem qb_z {b : Bool} : qb_i b = 0 ↔ b = false := by cases b <;> decide
theorem qn_U {f : Nat → Nat} {k v : Nat} : upd (qn_F f) k (nI v) = qn_F (qu_p f k v) := by
  funext j
  show (if j = k then nI v else nI (f j)) = nI (if j = k then v else f j)
  split <;> rfl
theorem qb_U {f : Nat → Bool} {k : Nat} {v : Bool} : upd (qb_F f) k (qb_i v) = qb_F (qu_p f k v) := by
  funext j
  show (if j = k then qb_i v else qb_i (f j)) = qb_i (if j = k then v else f j)
  split <;> rfl
theorem qb_br {b : Bool} {A B : Prop} (f : b = false → A) (g : b = true → B) : (qb_i b = 0 → A) ∧ (¬ qb_i b = 0 → B) := by
  cases b
  · exact ⟨fun _ => f rfl, fun h => absurd rfl h⟩
  · exact ⟨fun h => absurd h (by decide), fun _ => g rfl⟩
theorem qb_bz (v : Int32) : ∃ b : Bool, lw_bz v = qb_i b := by
  rcases lw_bz_01 v with h | h
  · exact ⟨false, h⟩
  · exact ⟨true, h⟩
theorem qi_12 (s p : Nat) : nI s * 12 + nI p = nI (12 * s + p) := by
  rw [show (12 : Int32) = nI 12 from rfl, pk_mul, nI_add, Nat.mul_comm]
theorem qi_12' (s : Nat) : nI s * 12 = nI (12 * s) := by
  rw [show (12 : Int32) = nI 12 from rfl, pk_mul, Nat.mul_comm]
theorem qi_3 (s p : Nat) : nI s * 3 + nI p = nI (3 * s + p) := by
  rw [show (3 : Int32) = nI 3 from rfl, pk_mul, nI_add, Nat.mul_comm]
theorem qi_64 (s p : Nat) : nI s * 64 + nI p = nI (64 * s + p) := by
  rw [show (64 : Int32) = nI 64 from rfl, pk_mul, nI_add, Nat.mul_comm]
/-! bits -/
def qm_b (k : Nat) : Int64 := (1 : Int64) <<< ((nI k).toInt64 &&& 63)
theorem qm_d (k : Nat) : (1 : Int64) <<< ((nI k).toInt64 &&& 63) = qm_b k := rfl
theorem qm_tp : ∀ k, k < 64 → (qm_b k).toBitVec = BitVec.twoPow 64 k := by decide +kernel
theorem qm_tz : ∀ k, k < 64 → BitVec.twoPow 64 k ≠ 0#64 := by decide +kernel
def qm_s (wk : Nat → Nat) (b : Nat) : Nat → Int64
  | 0 => 0
  | n + 1 => qm_s wk b n ||| qm_b (wk (b + n))
theorem qm_bit {wk : Nat → Nat} {b j : Nat} (hj : j < 64) : ∀ n, (∀ p, p < n → wk (b + p) < 64) → ((qm_s wk b n).toBitVec.getLsbD j = true ↔ ∃ p, p < n ∧ wk (b + p) = j) := by
  intro n
  induction n with
  | zero =>
    intro _
    constructor
    · intro h
      rw [show (qm_s wk b 0).toBitVec = 0#64 from rfl, BitVec.getLsbD_zero] at h
      exact absurd h (by decide)
    · rintro ⟨p, hp, _⟩
      omega
  | succ n ih =>
    intro hk
    have e : (qm_s wk b (n + 1)).toBitVec = (qm_s wk b n).toBitVec ||| (qm_b (wk (b + n))).toBitVec := rfl
    have h0 := hk n (by omega)
    rw [e, qm_tp _ h0, BitVec.getLsbD_or, BitVec.getLsbD_twoPow, Bool.or_eq_true, ih (fun p hp => hk p (by omega))]
    constructor
    · rintro (⟨p, hp, e⟩ | h)
      · exact ⟨p, by omega, e⟩
      · refine ⟨n, by omega, ?_⟩
        simp at h
        omega
    · rintro ⟨p, hp, e⟩
      by_cases h : p = n
      · subst h
        right
        simp
        omega
      · exact Or.inl ⟨p, by omega, e⟩
theorem qm_and {x : Int64} {j : Nat} (hj : j < 64) : (x &&& qm_b j) = 0 ↔ x.toBitVec.getLsbD j = false := by
  rw [← Int64.toBitVec_inj, Int64.toBitVec_and, qm_tp j hj, BitVec.and_twoPow]
  show _ = 0#64 ↔ _
  cases hb : x.toBitVec.getLsbD j
  · exact ⟨fun _ => rfl, fun _ => by simp⟩
  · constructor
    · intro h
      exact absurd (by simpa using h) (qm_tz j hj)
    · intro h
      exact absurd h (by decide)
/-- the session whose writes lie from b has written key, among its first n -/
def qw_W (wk : Nat → Nat) (b key : Nat) : Nat → Bool
  | 0 => false
  | n + 1 => qw_W wk b key n || decide (wk (b + n) = key)
theorem qw_iff {wk : Nat → Nat} {b key : Nat} : ∀ n, qw_W wk b key n = true ↔ ∃ p, p < n ∧ wk (b + p) = key := by
  intro n
  induction n with
  | zero => exact ⟨fun h => absurd h (by simp [qw_W]), fun ⟨p, hp, _⟩ => by omega⟩
  | succ n ih =>
    rw [qw_W, Bool.or_eq_true, ih, decide_eq_true_iff]
    constructor
    · rintro (⟨p, hp, e⟩ | h)
      · exact ⟨p, by omega, e⟩
      · exact ⟨n, by omega, h⟩
    · rintro ⟨p, hp, e⟩
      by_cases h : p = n
      · exact Or.inr (h ▸ e)
      · exact Or.inl ⟨p, by omega, e⟩
theorem qw_bit {wk : Nat → Nat} {b j n : Nat} (hj : j < 64) (hk : ∀ p, p < n → wk (b + p) < 64) : (qm_s wk b n).toBitVec.getLsbD j = qw_W wk b j n := by
  rw [Bool.eq_iff_iff, qm_bit hj n hk, qw_iff]
theorem qw_and {wk : Nat → Nat} {b j n : Nat} (hj : j < 64) (hk : ∀ p, p < n → wk (b + p) < 64) : (qm_s wk b n &&& qm_b j) = 0 ↔ qw_W wk b j n = false := by
  rw [qm_and hj, qw_bit hj hk]
/-- the last of n writes to key, or d -/
def ql_l (wk : Nat → Nat) (v : Nat → Int64) (b key : Nat) (d : Int64) : Nat → Int64
  | 0 => d
  | n + 1 => if wk (b + n) = key then v (b + n) else ql_l wk v b key d n
theorem ql_c {wk : Nat → Nat} {v w : Nat → Int64} {b key : Nat} {d : Int64} : ∀ n, (∀ p, p < n → v (b + p) = w (b + p)) → ql_l wk v b key d n = ql_l wk w b key d n := by
  intro n
  induction n with
  | zero => intro _; rfl
  | succ n ih =>
    intro h
    rw [ql_l, ql_l, ih (fun p hp => h p (by omega)), h n (by omega)]
def qv_v (t : Nat → Bool) (v : Nat → Int32) (i : Nat) : Int64 := if t i = true then (v i).toInt64 else 1000000000000
/-- the row of key as of commit m, by the first n writes of the history -/
def qa_f (hc hk : Nat → Nat) (v : Nat → Int64) (m key : Nat) : Nat → Int64
  | 0 => 1000000000000
  | n + 1 => if hc n ≤ m ∧ hk n = key then v n else qa_f hc hk v m key n
theorem qa_c {hc hk hc' hk' : Nat → Nat} {v v' : Nat → Int64} {m key : Nat} : ∀ n, (∀ i, i < n → hc' i = hc i ∧ hk' i = hk i ∧ v' i = v i) → qa_f hc' hk' v' m key n = qa_f hc hk v m key n := by
  intro n
  induction n with
  | zero => intro _; rfl
  | succ n ih =>
    intro h
    obtain ⟨a, b, c⟩ := h n (by omega)
    rw [qa_f, qa_f, ih (fun i hi => h i (by omega)), a, b, c]
theorem qa_m {hc hk : Nat → Nat} {v : Nat → Int64} {m m' key : Nat} : ∀ n, (∀ i, i < n → (hc i ≤ m ↔ hc i ≤ m')) → qa_f hc hk v m key n = qa_f hc hk v m' key n := by
  intro n
  induction n with
  | zero => intro _; rfl
  | succ n ih =>
    intro h
    rw [qa_f, qa_f, ih (fun i hi => h i (by omega))]
    simp only [h n (by omega)]
theorem qa_ext {hc hk : Nat → Nat} {v : Nat → Int64} {m key n : Nat} : ∀ d, (∀ i, n ≤ i → i < n + d → m < hc i) → qa_f hc hk v m key (n + d) = qa_f hc hk v m key n := by
  intro d
  induction d with
  | zero => intro _; rfl
  | succ d ih =>
    intro h
    have h1 := h (n + d) (by omega) (by omega)
    rw [← Nat.add_assoc, qa_f, if_neg (by omega), ih (fun i hi hj => h i hi (by omega))]
/-- how many below n -/
def qc_c (P : Nat → Bool) : Nat → Nat
  | 0 => 0
  | n + 1 => qc_c P n + (if P n = true then 1 else 0)
theorem qc_le (P : Nat → Bool) : ∀ n, qc_c P n ≤ n := by
  intro n
  induction n with
  | zero => exact Nat.le_refl 0
  | succ n ih => rw [qc_c]; split <;> omega
theorem qc_cg {P Q : Nat → Bool} : ∀ n, (∀ i, i < n → P i = Q i) → qc_c P n = qc_c Q n := by
  intro n
  induction n with
  | zero => intro _; rfl
  | succ n ih => intro h; rw [qc_c, qc_c, ih (fun i hi => h i (by omega)), h n (by omega)]
theorem qc_rm {Q : Nat → Bool} {j : Nat} (hj : Q j = true) : ∀ m, j < m → qc_c Q m = qc_c (qu_p Q j false) m + 1 := by
  intro m
  induction m with
  | zero => intro h; omega
  | succ m ih =>
    intro h
    by_cases e : j = m
    · subst e
      rw [qc_c, qc_c, hj, qu_s, qc_cg (P := qu_p Q j false) (Q := Q) j (fun i hi => qu_n (by omega))]
      simp
    · rw [qc_c, qc_c, ih (by omega), qu_n (Ne.symm e)]
      omega
theorem qc_0 {Q : Nat → Bool} : ∀ m, (∀ j, j < m → Q j = false) → qc_c Q m = 0 := by
  intro m
  induction m with
  | zero => intro _; rfl
  | succ m ih => intro h; rw [qc_c, ih (fun j hj => h j (by omega)), h m (by omega)]; rfl
theorem qc_bij {P : Nat → Bool} {f : Nat → Nat} {m : Nat} : ∀ n (Q : Nat → Bool), (∀ i, i < n → P i = true → f i < m ∧ Q (f i) = true) → (∀ i i', i < n → i' < n → P i = true → P i' = true → f i = f i' → i = i') → (∀ j, j < m → Q j = true → ∃ i, i < n ∧ P i = true ∧ f i = j) → qc_c P n = qc_c Q m := by
  intro n
  induction n with
  | zero =>
    intro Q _ _ h
    rw [qc_0 (Q := Q) m]
    · rfl
    · intro j hj
      cases hq : Q j
      · rfl
      · obtain ⟨i, hi, _⟩ := h j hj hq
        omega
  | succ n ih =>
    intro Q h1 h2 h3
    cases hp : P n
    · rw [qc_c, hp]
      show qc_c P n + 0 = _
      refine ih Q (fun i hi => h1 i (by omega)) (fun i i' hi hi' => h2 i i' (by omega) (by omega)) (fun j hj hq => ?_)
      obtain ⟨i, hi, hpi, e⟩ := h3 j hj hq
      refine ⟨i, ?_, hpi, e⟩
      rcases Nat.lt_or_ge i n with h | h
      · exact h
      · have : i = n := by omega
        subst this
        rw [hp] at hpi
        exact absurd hpi (by decide)
    · obtain ⟨a, b⟩ := h1 n (by omega) hp
      rw [qc_c, hp, qc_rm b m a]
      show qc_c P n + 1 = _
      refine congrArg (· + 1) (ih (qu_p Q (f n) false) (fun i hi hpi => ?_) (fun i i' hi hi' => h2 i i' (by omega) (by omega)) (fun j hj hq => ?_))
      · obtain ⟨c, d⟩ := h1 i (by omega) hpi
        refine ⟨c, ?_⟩
        rw [qu_n]
        · exact d
        · intro e
          have := h2 i n (by omega) (by omega) hpi hp e
          omega
      · by_cases e : j = f n
        · subst e
          rw [qu_s] at hq
          exact absurd hq (by decide)
        · rw [qu_n e] at hq
          obtain ⟨i, hi, hpi, ei⟩ := h3 j hj hq
          refine ⟨i, ?_, hpi, ei⟩
          rcases Nat.lt_or_ge i n with h | h
          · exact h
          · have : i = n := by omega
            subst this
            exact absurd ei.symm e
/-- those that hold come first -/
theorem qc_pre {P : Nat → Bool} : ∀ n, (∀ i j, i ≤ j → j < n → P j = true → P i = true) → ∀ i, i < n → (P i = true ↔ i < qc_c P n) := by
  intro n
  induction n with
  | zero => intro _ i hi; omega
  | succ n ih =>
    intro h i hi
    cases hp : P n
    · rw [qc_c, hp]
      show _ ↔ i < qc_c P n + 0
      by_cases e : i = n
      · subst e
        rw [hp]
        have := qc_le P i
        constructor
        · intro h; exact absurd h (by decide)
        · intro h; omega
      · exact ih (fun i j a b => h i j a (by omega)) i (by omega)
    · rw [qc_c, hp]
      have hall : ∀ m, m ≤ n + 1 → qc_c P m = m := by
        intro m
        induction m with
        | zero => intro _; rfl
        | succ m im => intro hm; rw [qc_c, im (by omega), h m n (by omega) (by omega) hp]; rfl
      rw [hall n (by omega)]
      show _ ↔ i < n + 1
      exact ⟨fun _ => hi, fun _ => h i n (by omega) (by omega) hp⟩
/-- bits counted by clearing the lowest -/
def qp_c : Nat → Nat → Nat
  | 0, _ => 0
  | n + 1, y => y % 2 + qp_c n (y / 2)
theorem qp_and2 (a b : Nat) : (a &&& b) % 2 = (a % 2) * (b % 2) ∧ (a &&& b) / 2 = (a / 2) &&& (b / 2) := by
  constructor
  · have h : (a &&& b).testBit 0 = (a.testBit 0 && b.testBit 0) := Nat.testBit_and a b 0
    rw [Nat.testBit_zero, Nat.testBit_zero, Nat.testBit_zero] at h
    rcases Nat.mod_two_eq_zero_or_one a with ha | ha <;> rcases Nat.mod_two_eq_zero_or_one b with hb | hb <;> rcases Nat.mod_two_eq_zero_or_one (a &&& b) with hc | hc <;> rw [ha, hb, hc] at h <;> rw [ha, hb, hc] <;> simp at h <;> rfl
  · exact Nat.and_div_two
theorem qp_clr : ∀ n y, 0 < y → y < 2 ^ n → qp_c n (y &&& (y - 1)) + 1 = qp_c n y := by
  intro n
  induction n with
  | zero => intro y h0 h1; rw [Nat.pow_zero] at h1; omega
  | succ n ih =>
    intro y h0 h1
    obtain ⟨e1, e2⟩ := qp_and2 y (y - 1)
    rw [qp_c, qp_c, e1, e2]
    rw [Nat.pow_succ] at h1
    rcases Nat.mod_two_eq_zero_or_one y with hy | hy
    · have : (y - 1) / 2 = y / 2 - 1 := by omega
      rw [hy, this, ← ih (y / 2) (by omega) (by omega)]
      omega
    · have : (y - 1) / 2 = y / 2 := by omega
      rw [hy, this, Nat.and_self, show (y - 1) % 2 = 0 by omega]
      omega
theorem qc_sh (P : Nat → Bool) : ∀ n, qc_c P (n + 1) = (if P 0 = true then 1 else 0) + qc_c (fun i => P (i + 1)) n := by
  intro n
  induction n with
  | zero => rw [qc_c, qc_c, qc_c]; omega
  | succ n ih => rw [qc_c, ih, qc_c]; omega
theorem qp_cnt : ∀ n y, qp_c n y = qc_c (fun i => y.testBit i) n := by
  intro n
  induction n with
  | zero => intro y; rfl
  | succ n ih =>
    intro y
    rw [qp_c, ih, qc_sh]
    congr 1
    · rw [Nat.testBit_zero]
      rcases Nat.mod_two_eq_zero_or_one y with h | h <;> rw [h] <;> rfl
    · refine qc_cg n (fun i _ => ?_)
      rw [Nat.testBit_succ]
end
section
/-! more pure rows: some one of the first n; copies -/
def qe_x (P : Nat → Bool) : Nat → Bool
  | 0 => false
  | n + 1 => qe_x P n || P n
theorem qe_iff {P : Nat → Bool} : ∀ n, qe_x P n = true ↔ ∃ i, i < n ∧ P i = true := by
  intro n
  induction n with
  | zero => exact ⟨fun h => absurd h (by simp [qe_x]), fun ⟨p, hp, _⟩ => by omega⟩
  | succ n ih =>
    rw [qe_x, Bool.or_eq_true, ih]
    constructor
    · rintro (⟨p, hp, e⟩ | h)
      · exact ⟨p, by omega, e⟩
      · exact ⟨n, by omega, h⟩
    · rintro ⟨p, hp, e⟩
      by_cases h : p = n
      · exact Or.inr (h ▸ e)
      · exact Or.inl ⟨p, by omega, e⟩
/-- tracked, but for session b: some other running serializable one started before j -/
def qt_K (op se : Nat → Bool) (st : Nat → Nat) (b : Int32) (j : Nat) : Bool := qe_x (fun o => decide (¬ nI o = b) && (op o && (se o && decide (st o < j)))) 4
theorem qt_iff {op se : Nat → Bool} {st : Nat → Nat} {b : Int32} {j : Nat} : qt_K op se st b j = true ↔ ∃ o, o < 4 ∧ ¬ nI o = b ∧ op o = true ∧ se o = true ∧ st o < j := by
  rw [qt_K, qe_iff]
  simp only [Bool.and_eq_true, decide_eq_true_eq]
def qt_T (st pn : Nat → Nat) (rx pw : Nat → Int64) (s i : Nat) : Bool := decide (st s < pn i) && decide (¬ (rx s &&& pw i) = 0)
def qt_R (st pn : Nat → Nat) (pr : Nat → Int64) (w : Int64) (s i : Nat) : Bool := decide (st s < pn i) && decide (¬ (pr i &&& w) = 0)
theorem qt_Ti {st pn : Nat → Nat} {rx pw : Nat → Int64} {s i : Nat} : qt_T st pn rx pw s i = true ↔ st s < pn i ∧ ¬ (rx s &&& pw i) = 0 := by
  rw [qt_T, Bool.and_eq_true, decide_eq_true_eq, decide_eq_true_eq]
theorem qt_Ri {st pn : Nat → Nat} {pr : Nat → Int64} {w : Int64} {s i : Nat} : qt_R st pn pr w s i = true ↔ st s < pn i ∧ ¬ (pr i &&& w) = 0 := by
  rw [qt_R, Bool.and_eq_true, decide_eq_true_eq, decide_eq_true_eq]
/-- d with n cells of src from b on -/
def qk_c {α : Type} (d src : Nat → α) (b n : Nat) : Nat → α := fun j => if b ≤ j ∧ j < b + n then src (j - b) else d j
theorem qk_0 {α : Type} {d src : Nat → α} {b : Nat} : qk_c d src b 0 = d := by
  funext j
  rw [qk_c, if_neg (by omega)]
theorem qk_s {α : Type} {d src : Nat → α} {b n : Nat} : qu_p (qk_c d src b n) (b + n) (src n) = qk_c d src b (n + 1) := by
  funext j
  rw [qu_p]
  by_cases h : j = b + n
  · rw [if_pos h, qk_c, if_pos (by omega), show j - b = n by omega]
  · rw [if_neg h, qk_c, qk_c]
    by_cases h2 : b ≤ j ∧ j < b + n
    · rw [if_pos h2, if_pos (by omega)]
    · rw [if_neg h2, if_neg (by omega)]
theorem qk_s0 {α : Type} {d src : Nat → α} {n : Nat} : qu_p (qk_c d src 0 n) n (src n) = qk_c d src 0 (n + 1) := by
  have h := qk_s (d := d) (src := src) (b := 0) (n := n)
  rw [Nat.zero_add] at h
  exact h
theorem qk_in {α : Type} {d src : Nat → α} {b n i : Nat} (h : i < n) : qk_c d src b n (b + i) = src i := by
  rw [qk_c, if_pos (by omega), Nat.add_sub_cancel_left]
theorem qk_in0 {α : Type} {d src : Nat → α} {n i : Nat} (h : i < n) : qk_c d src 0 n i = src i := by
  rw [qk_c, if_pos (by omega), Nat.sub_zero]
theorem qk_out {α : Type} {d src : Nat → α} {b n j : Nat} (h : j < b ∨ b + n ≤ j) : qk_c d src b n j = d j := by
  rw [qk_c, if_neg (by omega)]
/-- flags: f, or R among the first i -/
def qf_m (f R : Nat → Bool) (i : Nat) : Nat → Bool := fun j => f j || (decide (j < i) && R j)
theorem qf_0 {f R : Nat → Bool} : qf_m f R 0 = f := by
  funext j
  simp [qf_m]
theorem qf_t {f R : Nat → Bool} {i : Nat} (h : R i = true) : qu_p (qf_m f R i) i true = qf_m f R (i + 1) := by
  funext j
  by_cases e : j = i
  · subst e
    rw [qu_s, qf_m, h]
    simp
  · rw [qu_n e, qf_m, qf_m]
    congr 2
    simp only [decide_eq_decide]
    omega
theorem qf_f {f R : Nat → Bool} {i : Nat} (h : R i = false) : qf_m f R i = qf_m f R (i + 1) := by
  funext j
  by_cases e : j = i
  · subst e
    rw [qf_m, qf_m, h, Bool.and_false, Bool.and_false]
  · rw [qf_m, qf_m]
    congr 2
    simp only [decide_eq_decide]
    omega
/-- the read set with key noted -/
def qo_v (wk : Nat → Nat) (n b key : Nat) (r : Int64) : Int64 := if qw_W wk b key n = true then r else r ||| qm_b key
theorem qu_id {α : Type} {f : Nat → α} {k : Nat} : qu_p f k (f k) = f := by
  funext j
  by_cases h : j = k
  · rw [h, qu_s]
  · rw [qu_n h]
theorem qu_qu {α : Type} {f : Nat → α} {k : Nat} {a b : α} : qu_p (qu_p f k a) k b = qu_p f k b := by
  funext j
  by_cases h : j = k
  · rw [h, qu_s, qu_s]
  · rw [qu_n h, qu_n h, qu_n h]
def qr_R (wk : Nat → Nat) (wr : Nat → Int64) (b : Nat) (ro : Nat → Int64) : Nat → (Nat → Int64)
  | 0 => ro
  | n + 1 => qu_p (qr_R wk wr b ro n) (wk (b + n)) (wr (b + n))
def qr_N (wk : Nat → Nat) (c b : Nat) (lw : Nat → Nat) : Nat → (Nat → Nat)
  | 0 => lw
  | n + 1 => qu_p (qr_N wk c b lw n) (wk (b + n)) c
theorem qr_Rl {wk : Nat → Nat} {wr ro : Nat → Int64} {b key : Nat} : ∀ n, qr_R wk wr b ro n key = ql_l wk wr b key (ro key) n := by
  intro n
  induction n with
  | zero => rfl
  | succ n ih =>
    rw [qr_R, ql_l]
    by_cases h : wk (b + n) = key
    · rw [if_pos h, ← h, qu_s]
    · rw [if_neg h, qu_n (Ne.symm h), ih]
theorem qr_Nl {wk lw : Nat → Nat} {c b key : Nat} : ∀ n, qr_N wk c b lw n key = if qw_W wk b key n = true then c else lw key := by
  intro n
  induction n with
  | zero => rfl
  | succ n ih =>
    rw [qr_N, qw_W]
    by_cases h : wk (b + n) = key
    · rw [← h, qu_s]
      simp
    · rw [qu_n (Ne.symm h), ih]
      simp [h]
theorem qn_U0 {f : Nat → Nat} {k : Nat} : upd (qn_F f) k 0 = qn_F (qu_p f k 0) := by
  rw [← nI_0, qn_U]
/-- next and sum, over what is seen (F) and how the read set grows (G) -/
def qx_n (F : Nat → Int64) (G : Nat → Int64 → Int64) : Nat → Nat → Int64 → Nat × Int64
  | 0, i, r => (i, r)
  | d + 1, i, r => if F i = 1000000000000 then qx_n F G d (i + 1) (G i r) else (i, G i r)
def qx_s (F : Nat → Int64) (G : Nat → Int64 → Int64) : Nat → Nat → Int64 → Int64 → Int64 × Int64
  | 0, _, t, r => (t, r)
  | d + 1, i, t, r => qx_s F G d (i + 1) (if F i = 1000000000000 then t else t + F i) (G i r)
end
section
section
variable {g : Int32} {C D H : Nat} {ro dr sn rx wr pr pw cr cw ry : Nat → Int64} {lw st wc wk sc sv pn hc hk cs yc ys : Nat → Nat} {op se pO pI ht kn yt : Nat → Bool} {hv yv : Nat → Int32}
theorem wx_isOpen {post : Int32 → Prop} {s : Nat} (hs : s < 4) (h : post (qb_i (op s))) : wpX_isOpen post (g, nI C, nI D, ro, dr, qn_F lw, qb_F op, qb_F se, qn_F st, sn, rx, qn_F wc, qn_F wk, wr, qn_F sc, qn_F sv, qn_F pn, pr, pw, qb_F pO, qb_F pI) (nI s) := by
  unfold wpX_isOpen
  simp only [nI_clamp (show s < 2 ^ 31 by omega), qb_at]
  refine pk_lt s 0 (fun h => absurd h (by omega)) (fun _ => pk_le 4 s (fun h => absurd h (by omega)) (fun _ => ⟨vp_in_nI hs (by omega), qb_br (fun e => ?_) (fun e => ?_)⟩))
  · rw [e] at h; exact h
  · rw [e] at h; exact h
theorem wx_open (v1 : Int32) : (∃ s, s < 4 ∧ v1 = nI s ∧ op s = true) ∨ ((∀ post : Int32 → Prop, post 0 → wpX_isOpen post (g, nI C, nI D, ro, dr, qn_F lw, qb_F op, qb_F se, qn_F st, sn, rx, qn_F wc, qn_F wk, wr, qn_F sc, qn_F sv, qn_F pn, pr, pw, qb_F pO, qb_F pI) v1) ∧ (∀ post : Int32 → Prop, post 0 → wpY_isOpen post (g, nI C, nI D, nI H, qn_F hc, qn_F hk, hv, qb_F ht, qn_F cs, cr, cw, qb_F kn, qb_F op, qb_F se, qn_F st, ry, qn_F yc, qn_F ys, qn_F wk, yv, qb_F yt, qn_F sv) v1)) := by
  rcases pk_ix v1 (n := 4) (by omega) with h | h | ⟨s, hs, rfl⟩
  · exact Or.inr ⟨fun post p => br_t h p, fun post p => br_t h p⟩
  · have h0 : ¬ v1 < 0 := fun z => absurd (Int32.lt_of_lt_of_le z (Int32.le_trans (show (0 : Int32) ≤ nI 4 by decide) h)) (Int32.lt_irrefl)
    exact Or.inr ⟨fun post p => br_f h0 (br_t h p), fun post p => br_f h0 (br_t h p)⟩
  · cases ho : op s
    · refine Or.inr ⟨fun post p => ?_, fun post p => ?_⟩
      · exact wx_isOpen hs (by rw [ho]; exact p)
      · unfold wpY_isOpen
        simp only [nI_clamp (show s < 2 ^ 31 by omega), qb_at]
        refine pk_lt s 0 (fun h => absurd h (by omega)) (fun _ => pk_le 4 s (fun h => absurd h (by omega)) (fun _ => ⟨vp_in_nI hs (by omega), qb_br (fun e => p) (fun e => ?_)⟩))
        rw [ho] at e
        exact absurd e (by decide)
    · exact Or.inl ⟨s, hs, rfl, ho⟩
theorem wx_isOpenT {post : Int32 → Prop} {s : Nat} (hs : s < 4) (ho : op s = true) (h : post 1) : wpX_isOpen post (g, nI C, nI D, ro, dr, qn_F lw, qb_F op, qb_F se, qn_F st, sn, rx, qn_F wc, qn_F wk, wr, qn_F sc, qn_F sv, qn_F pn, pr, pw, qb_F pO, qb_F pI) (nI s) := wx_isOpen hs (by rw [ho]; exact h)
theorem wy_isOpenT {post : Int32 → Prop} {s : Nat} (hs : s < 4) (ho : op s = true) (h : post 1) : wpY_isOpen post (g, nI C, nI D, nI H, qn_F hc, qn_F hk, hv, qb_F ht, qn_F cs, cr, cw, qb_F kn, qb_F op, qb_F se, qn_F st, ry, qn_F yc, qn_F ys, qn_F wk, yv, qb_F yt, qn_F sv) (nI s) := by
  unfold wpY_isOpen
  simp only [nI_clamp (show s < 2 ^ 31 by omega), qb_at]
  refine pk_lt s 0 (fun h => absurd h (by omega)) (fun _ => pk_le 4 s (fun h => absurd h (by omega)) (fun _ => ⟨vp_in_nI hs (by omega), qb_br (fun e => ?_) (fun e => h)⟩))
  rw [ho] at e
  exact absurd e (by decide)
theorem wx_key (v2 : Int32) : (∃ key, key < 64 ∧ v2 = nI key) ∨ ((∀ post : Int32 → Prop, post 0 → wpX_isKey post (g, nI C, nI D, ro, dr, qn_F lw, qb_F op, qb_F se, qn_F st, sn, rx, qn_F wc, qn_F wk, wr, qn_F sc, qn_F sv, qn_F pn, pr, pw, qb_F pO, qb_F pI) v2) ∧ (∀ post : Int32 → Prop, post 0 → wpY_isKey post (g, nI C, nI D, nI H, qn_F hc, qn_F hk, hv, qb_F ht, qn_F cs, cr, cw, qb_F kn, qb_F op, qb_F se, qn_F st, ry, qn_F yc, qn_F ys, qn_F wk, yv, qb_F yt, qn_F sv) v2)) := by
  rcases pk_ix v2 (n := 64) (by omega) with h | h | ⟨key, hy, rfl⟩
  · exact Or.inr ⟨fun post p => br_t h p, fun post p => br_t h p⟩
  · have h0 : ¬ v2 < 0 := fun z => absurd (Int32.lt_of_lt_of_le z (Int32.le_trans (show (0 : Int32) ≤ nI 64 by decide) h)) (Int32.lt_irrefl)
    exact Or.inr ⟨fun post p => br_f h0 (br_t h p), fun post p => br_f h0 (br_t h p)⟩
  · exact Or.inl ⟨key, hy, rfl⟩
theorem wx_isKeyT {post : Int32 → Prop} {key : Nat} (hy : key < 64) (h : post 1) : wpX_isKey post (g, nI C, nI D, ro, dr, qn_F lw, qb_F op, qb_F se, qn_F st, sn, rx, qn_F wc, qn_F wk, wr, qn_F sc, qn_F sv, qn_F pn, pr, pw, qb_F pO, qb_F pI) (nI key) :=
  pk_lt key 0 (fun h => absurd h (by omega)) (fun _ => pk_le 64 key (fun h => absurd h (by omega)) (fun _ => h))
theorem wy_isKeyT {post : Int32 → Prop} {key : Nat} (hy : key < 64) (h : post 1) : wpY_isKey post (g, nI C, nI D, nI H, qn_F hc, qn_F hk, hv, qb_F ht, qn_F cs, cr, cw, qb_F kn, qb_F op, qb_F se, qn_F st, ry, qn_F yc, qn_F ys, qn_F wk, yv, qb_F yt, qn_F sv) (nI key) :=
  pk_lt key 0 (fun h => absurd h (by omega)) (fun _ => pk_le 64 key (fun h => absurd h (by omega)) (fun _ => h))
theorem wx_ws5 {post : Int64 → Prop} {s : Nat} (hs : s < 4) (hw : wc s ≤ 12) (h : post (qm_s wk (12 * s) (wc s))) : ∀ d i, i + d = wc s → wX_writeSet_5 post (nI s) g (nI C) (nI D) ro dr (qn_F lw) (qb_F op) (qb_F se) (qn_F st) sn rx (qn_F wc) (qn_F wk) wr (qn_F sc) (qn_F sv) (qn_F pn) pr pw (qb_F pO) (qb_F pI) (d + 1) (qm_s wk (12 * s) i) (nI i) := by
  intro d
  induction d with
  | zero =>
    intro i hi
    rw [wX_writeSet_5]
    simp only [nI_clamp (show s < 2 ^ 31 by omega), qn_at]
    refine ⟨vp_in_nI hs (by omega), pk_le (wc s) i (fun _ => ?_) (fun h => absurd h (by omega))⟩
    have : i = wc s := by omega
    rw [this]
    exact h
  | succ d ih =>
    intro i hi
    rw [wX_writeSet_5]
    simp only [nI_clamp (show s < 2 ^ 31 by omega), qn_at, qi_12, nI_clamp (show 12 * s + i < 2 ^ 31 by omega), qm_d, nI_1]
    exact ⟨vp_in_nI hs (by omega), pk_le (wc s) i (fun h => absurd h (by omega)) (fun _ => ⟨vp_in_nI (by omega) (by omega), nm_e (nm_e (ih (i + 1) (by omega)))⟩)⟩
theorem wx_writeSet {post : Int64 → Prop} {s : Nat} (hs : s < 4) (hw : wc s ≤ 12) (h : post (qm_s wk (12 * s) (wc s))) : wpX_writeSet post (g, nI C, nI D, ro, dr, qn_F lw, qb_F op, qb_F se, qn_F st, sn, rx, qn_F wc, qn_F wk, wr, qn_F sc, qn_F sv, qn_F pn, pr, pw, qb_F pO, qb_F pI) (nI s) := by
  unfold wpX_writeSet
  exact ⟨wc s + 1, wx_ws5 hs hw h (wc s) 0 (by omega)⟩
theorem wx_hasWritten {post : Int32 → Prop} {s key : Nat} (hs : s < 4) (hw : wc s ≤ 12) (hp : ∀ p, p < wc s → wk (12 * s + p) < 64) (hy : key < 64) (h : post (qb_i (qw_W wk (12 * s) key (wc s)))) : wpX_hasWritten post (g, nI C, nI D, ro, dr, qn_F lw, qb_F op, qb_F se, qn_F st, sn, rx, qn_F wc, qn_F wk, wr, qn_F sc, qn_F sv, qn_F pn, pr, pw, qb_F pO, qb_F pI) (nI s) (nI key) := by
  unfold wpX_hasWritten
  dsimp only
  refine wx_writeSet hs hw ?_
  simp only [qm_d]
  cases hb : qw_W wk (12 * s) key (wc s)
  · rw [hb] at h
    exact br_t ((qw_and hy hp).mpr hb) h
  · rw [hb] at h
    exact br_f (fun z => by rw [(qw_and hy hp).mp z] at hb; exact absurd hb (by decide)) h
theorem wx_add {post : SX → Prop} {s key : Nat} (hs : s < 4) (hw : wc s ≤ 12) (hp : ∀ p, p < wc s → wk (12 * s + p) < 64) (hy : key < 64) (h : post (g, nI C, nI D, ro, dr, qn_F lw, qb_F op, qb_F se, qn_F st, sn, qu_p rx s (qo_v wk (wc s) (12 * s) key (rx s)), qn_F wc, qn_F wk, wr, qn_F sc, qn_F sv, qn_F pn, pr, pw, qb_F pO, qb_F pI)) : wpX_addToReadSet post (g, nI C, nI D, ro, dr, qn_F lw, qb_F op, qb_F se, qn_F st, sn, rx, qn_F wc, qn_F wk, wr, qn_F sc, qn_F sv, qn_F pn, pr, pw, qb_F pO, qb_F pI) (nI s) (nI key) := by
  unfold wpX_addToReadSet
  dsimp only
  refine wx_hasWritten hs hw hp hy ?_
  simp only [qm_d, nI_clamp (show s < 2 ^ 31 by omega), qu_L]
  refine qb_br (fun e => ?_) (fun e => ?_)
  · rw [qo_v, if_neg (by rw [e]; decide)] at h
    exact ⟨vp_in_nI hs (by omega), vp_in_nI hs (by omega), nm_e h⟩
  · rw [qo_v, if_pos e, qu_id] at h
    exact h
theorem wx_vr9 {post : Int64 → Prop} {s key : Nat} (hs : s < 4) (hw : wc s ≤ 12) (hp : ∀ p, p < wc s → wk (12 * s + p) < 64) (hy : key < 64) : ∀ p, p ≤ wc s → post (ql_l wk wr (12 * s) key (sn (64 * s + key)) p) → wX_visibleRow_9 post (nI s) (nI key) g (nI C) (nI D) ro dr (qn_F lw) (qb_F op) (qb_F se) (qn_F st) sn rx (qn_F wc) (qn_F wk) wr (qn_F sc) (qn_F sv) (qn_F pn) pr pw (qb_F pO) (qb_F pI) (p + 1) (nI p - 1) := by
  intro p
  induction p with
  | zero =>
    intro _ h
    rw [wX_visibleRow_9]
    simp only [qi_64, nI_clamp (show 64 * s + key < 2 ^ 31 by omega)]
    exact br_t (by decide) ⟨vp_in_nI (by omega) (by omega), h⟩
  | succ p ih =>
    intro hq h
    have h64 := hp p (by omega)
    rw [wX_visibleRow_9, nI_pred]
    simp only [qi_12, nI_clamp (show 12 * s + p < 2 ^ 31 by omega), qn_at]
    refine pk_lt p 0 (fun h => absurd h (by omega)) (fun _ => ⟨vp_in_nI (by omega) (by omega), pk_eq (wk (12 * s + p)) key (fun e => ⟨vp_in_nI (by omega) (by omega), ?_⟩) (fun e => nm_r (e' := nI p - 1) ?_ (ih (by omega) ?_))⟩)
    · rw [ql_l, if_pos e] at h
      exact h
    · rw [Int32.sub_eq_add_neg]
    · rw [ql_l, if_neg e] at h
      exact h
theorem wx_vis {post : Int64 → Prop} {s key : Nat} (hs : s < 4) (hw : wc s ≤ 12) (hp : ∀ p, p < wc s → wk (12 * s + p) < 64) (hy : key < 64) (h : post (ql_l wk wr (12 * s) key (sn (64 * s + key)) (wc s))) : wpX_visibleRow post (g, nI C, nI D, ro, dr, qn_F lw, qb_F op, qb_F se, qn_F st, sn, rx, qn_F wc, qn_F wk, wr, qn_F sc, qn_F sv, qn_F pn, pr, pw, qb_F pO, qb_F pI) (nI s) (nI key) := by
  unfold wpX_visibleRow
  simp only [nI_clamp (show s < 2 ^ 31 by omega), qn_at]
  exact ⟨vp_in_nI hs (by omega), nm_e ⟨wc s + 1, wx_vr9 hs hw hp hy (wc s) (by omega) h⟩⟩
theorem wx_lk2 {post : Int32 → Prop} {s key : Nat} (hs : s < 4) (hw : ∀ o, o < 4 → wc o ≤ 12) (hp : ∀ o, o < 4 → ∀ p, p < wc o → wk (12 * o + p) < 64) (hy : key < 64) (r : Bool) (hr : r = true ↔ ∃ o, o < 4 ∧ o ≠ s ∧ qw_W wk (12 * o) key (wc o) = true) (h : post (qb_i r)) : ∀ d i, i + d = 4 → (∀ o, o < i → o ≠ s → qw_W wk (12 * o) key (wc o) = false) → wX_isLockedByOther_2 post (nI s) (nI key) g (nI C) (nI D) ro dr (qn_F lw) (qb_F op) (qb_F se) (qn_F st) sn rx (qn_F wc) (qn_F wk) wr (qn_F sc) (qn_F sv) (qn_F pn) pr pw (qb_F pO) (qb_F pI) (d + 1) (nI i) := by
  intro d
  induction d with
  | zero =>
    intro i hi hn
    rw [wX_isLockedByOther_2]
    refine pk_le 4 i (fun _ => ?_) (fun h => absurd h (by omega))
    cases hb : r
    · rw [hb] at h; exact h
    · obtain ⟨o, ho, hos, hq⟩ := hr.mp hb
      rw [hn o (by omega) hos] at hq
      exact absurd hq (by decide)
  | succ d ih =>
    intro i hi hn
    rw [wX_isLockedByOther_2]
    simp only [nI_1]
    refine pk_le 4 i (fun h => absurd h (by omega)) (fun _ => pk_eq i s (fun e => nm_e (ih (i + 1) (by omega) (fun o ho hos => hn o (by omega) hos))) (fun e => ?_))
    refine wx_hasWritten (by omega) (hw i (by omega)) (hp i (by omega)) hy ?_
    refine qb_br (fun e0 => nm_e (ih (i + 1) (by omega) (fun o ho hos => ?_))) (fun e1 => ?_)
    · by_cases c : o = i
      · subst c; exact e0
      · exact hn o (by omega) hos
    · have hb : r = true := hr.mpr ⟨i, by omega, e, e1⟩
      rw [hb] at h
      exact h
theorem wx_lk {post : Int32 → Prop} {s key : Nat} (hs : s < 4) (hw : ∀ o, o < 4 → wc o ≤ 12) (hp : ∀ o, o < 4 → ∀ p, p < wc o → wk (12 * o + p) < 64) (hy : key < 64) (r : Bool) (hr : r = true ↔ ∃ o, o < 4 ∧ o ≠ s ∧ qw_W wk (12 * o) key (wc o) = true) (h : post (qb_i r)) : wpX_isLockedByOther post (g, nI C, nI D, ro, dr, qn_F lw, qb_F op, qb_F se, qn_F st, sn, rx, qn_F wc, qn_F wk, wr, qn_F sc, qn_F sv, qn_F pn, pr, pw, qb_F pO, qb_F pI) (nI s) (nI key) := by
  unfold wpX_isLockedByOther
  exact ⟨5, wx_lk2 hs hw hp hy r hr h 4 0 (by omega) (fun o ho => by omega)⟩
theorem wx_end {post : SX → Prop} {s : Nat} (hs : s < 4) (h : post (g, nI C, nI D, ro, dr, qn_F lw, qb_F (qu_p op s false), qb_F se, qn_F st, sn, qu_p rx s 0, qn_F (qu_p wc s 0), qn_F wk, wr, qn_F (qu_p sc s 0), qn_F sv, qn_F pn, pr, pw, qb_F pO, qb_F pI)) : wpX_endTransaction post (g, nI C, nI D, ro, dr, qn_F lw, qb_F op, qb_F se, qn_F st, sn, rx, qn_F wc, qn_F wk, wr, qn_F sc, qn_F sv, qn_F pn, pr, pw, qb_F pO, qb_F pI) (nI s) := by
  unfold wpX_endTransaction
  simp only [nI_clamp (show s < 2 ^ 31 by omega), qb_nar0, qb_U, qu_L, qn_U0]
  exact ⟨vp_in_nI hs (by omega), nm_e ⟨vp_in_nI hs (by omega), nm_e ⟨vp_in_nI hs (by omega), nm_e ⟨vp_in_nI hs (by omega), nm_e h⟩⟩⟩⟩
end
end
section
section
variable {g : Int32} {C D H : Nat} {ro dr sn rx wr pr pw cr cw ry : Nat → Int64} {lw st wc wk sc sv pn hc hk cs yc ys : Nat → Nat} {op se pO pI ht kn yt : Nat → Bool} {hv yv : Nat → Int32}
theorem wx_conc {post : Int32 → Prop} {s i : Nat} (hs : s < 4) (hi : i < 8) (h1 : st s < 2 ^ 31) (h2 : pn i < 2 ^ 31) (h : post (qb_i (decide (st s < pn i)))) : wpX_isConcurrent post (g, nI C, nI D, ro, dr, qn_F lw, qb_F op, qb_F se, qn_F st, sn, rx, qn_F wc, qn_F wk, wr, qn_F sc, qn_F sv, qn_F pn, pr, pw, qb_F pO, qb_F pI) (nI s) (nI i) := by
  unfold wpX_isConcurrent
  simp only [nI_clamp (show s < 2 ^ 31 by omega), nI_clamp (show i < 2 ^ 31 by omega), qn_at]
  refine ⟨vp_in_nI hs (by omega), vp_in_nI hi (by omega), pk_le (pn i) (st s) (fun e => ?_) (fun e => ?_)⟩
  · rw [decide_eq_false (by omega)] at h; exact h
  · rw [decide_eq_true e] at h; exact h
theorem wx_to {post : Int32 → Prop} {s i : Nat} (hs : s < 4) (hi : i < 8) (h1 : st s < 2 ^ 31) (h2 : pn i < 2 ^ 31) (h : post (qb_i (qt_T st pn rx pw s i))) : wpX_hasArrowTo post (g, nI C, nI D, ro, dr, qn_F lw, qb_F op, qb_F se, qn_F st, sn, rx, qn_F wc, qn_F wk, wr, qn_F sc, qn_F sv, qn_F pn, pr, pw, qb_F pO, qb_F pI) (nI s) (nI i) := by
  unfold wpX_hasArrowTo
  dsimp only
  refine wx_conc hs hi h1 h2 ?_
  simp only [nI_clamp (show s < 2 ^ 31 by omega), nI_clamp (show i < 2 ^ 31 by omega)]
  rw [qt_T] at h
  refine qb_br (fun e => ?_) (fun e => ⟨vp_in_nI hs (by omega), vp_in_nI hi (by omega), br_c (fun z => ?_) (fun z => ?_)⟩)
  · rw [e, Bool.false_and] at h; exact h
  · rw [e, decide_eq_false (fun c => c z)] at h; exact h
  · rw [e, decide_eq_true z] at h; exact h
theorem wx_fr {post : Int32 → Prop} {w : Int64} {s i : Nat} (hs : s < 4) (hi : i < 8) (h1 : st s < 2 ^ 31) (h2 : pn i < 2 ^ 31) (h : post (qb_i (qt_R st pn pr w s i))) : wpX_hasArrowFrom post (g, nI C, nI D, ro, dr, qn_F lw, qb_F op, qb_F se, qn_F st, sn, rx, qn_F wc, qn_F wk, wr, qn_F sc, qn_F sv, qn_F pn, pr, pw, qb_F pO, qb_F pI) (nI s) (nI i) w := by
  unfold wpX_hasArrowFrom
  dsimp only
  refine wx_conc hs hi h1 h2 ?_
  simp only [nI_clamp (show i < 2 ^ 31 by omega)]
  rw [qt_R] at h
  refine qb_br (fun e => ?_) (fun e => ⟨vp_in_nI hi (by omega), br_c (fun z => ?_) (fun z => ?_)⟩)
  · rw [e, Bool.false_and] at h; exact h
  · rw [e, decide_eq_false (fun c => c z)] at h; exact h
  · rw [e, decide_eq_true z] at h; exact h
theorem wx_jo47 {post : Int32 → Prop} {J : Int32 → Int32 → Int32 → Prop} {w : Int64} {x4 : Int32} {b5 : Bool} {s i : Nat} (hs : s < 4) (hi : i < 8) (h1 : st s < 2 ^ 31) (h2 : pn i < 2 ^ 31) (hf : qt_R st pn pr w s i = true → pI i = true → post 1) (hj : (qt_R st pn pr w s i = true → pI i = false) → J x4 (qb_i (b5 || qt_R st pn pr w s i)) (nI (i + 1))) : wX_wouldJoinTwoArrows_47 post J (nI s) w x4 (qb_i b5) (nI i) g (nI C) (nI D) ro dr (qn_F lw) (qb_F op) (qb_F se) (qn_F st) sn rx (qn_F wc) (qn_F wk) wr (qn_F sc) (qn_F sv) (qn_F pn) pr pw (qb_F pO) (qb_F pI) := by
  unfold wX_wouldJoinTwoArrows_47
  refine wx_fr hs hi h1 h2 ?_
  simp only [nI_clamp (show i < 2 ^ 31 by omega), qb_at, nI_1]
  refine qb_br (fun e => nm_e ?_) (fun e => ⟨vp_in_nI hi (by omega), qb_br (fun z => nm_e ?_) (fun z => hf e z)⟩)
  · have := hj (fun c => by rw [e] at c; exact absurd c (by decide))
    rw [e, Bool.or_false] at this
    exact this
  · have := hj (fun c => z)
    rw [e, Bool.or_true] at this
    exact this
theorem wx_jo15 {post : Int32 → Prop} {w : Int64} {s : Nat} (hs : s < 4) (h1 : st s < 2 ^ 31) (h2 : ∀ i, i < 8 → pn i < 2 ^ 31) (r : Bool) (hr : r = true ↔ (∃ i, i < 8 ∧ qt_T st pn rx pw s i = true ∧ pO i = true) ∨ (∃ i, i < 8 ∧ qt_R st pn pr w s i = true ∧ pI i = true) ∨ ((∃ i, i < 8 ∧ qt_T st pn rx pw s i = true) ∧ (∃ i, i < 8 ∧ qt_R st pn pr w s i = true))) (h : post (qb_i r)) : ∀ d i, i + d = 8 → (∀ o, o < i → (qt_T st pn rx pw s o = true → pO o = false) ∧ (qt_R st pn pr w s o = true → pI o = false)) → wX_wouldJoinTwoArrows_15 post (nI s) w g (nI C) (nI D) ro dr (qn_F lw) (qb_F op) (qb_F se) (qn_F st) sn rx (qn_F wc) (qn_F wk) wr (qn_F sc) (qn_F sv) (qn_F pn) pr pw (qb_F pO) (qb_F pI) (d + 1) (qb_i (qe_x (qt_T st pn rx pw s) i)) (qb_i (qe_x (qt_R st pn pr w s) i)) (nI i) := by
  intro d
  induction d with
  | zero =>
    intro i hi hn
    have hi8 : i = 8 := by omega
    subst hi8
    rw [wX_wouldJoinTwoArrows_15]
    have key : r = (qe_x (qt_T st pn rx pw s) 8 && qe_x (qt_R st pn pr w s) 8) := by
      rw [Bool.eq_iff_iff, hr, Bool.and_eq_true, qe_iff, qe_iff]
      constructor
      · rintro (⟨o, ho, a, b⟩ | ⟨o, ho, a, b⟩ | c)
        · rw [(hn o ho).1 a] at b; exact absurd b (by decide)
        · rw [(hn o ho).2 a] at b; exact absurd b (by decide)
        · exact c
      · intro c
        exact Or.inr (Or.inr c)
    rw [key] at h
    refine pk_le 8 8 (fun _ => qb_br (fun e => ?_) (fun e => qb_br (fun z => ?_) (fun z => ?_))) (fun h => absurd h (by omega))
    · rw [e] at h; exact h
    · rw [e, z] at h; exact h
    · rw [e, z] at h; exact h
  | succ d ih =>
    intro i hi hn
    rw [wX_wouldJoinTwoArrows_15]
    refine pk_le 8 i (fun h => absurd h (by omega)) (fun _ => ?_)
    refine wx_to hs (by omega) h1 (h2 i (by omega)) ?_
    simp only [nI_clamp (show i < 2 ^ 31 by omega), qb_at]
    have hfound : qt_R st pn pr w s i = true → pI i = true → post 1 := fun a b => by
      have hb : r = true := hr.mpr (Or.inr (Or.inl ⟨i, by omega, a, b⟩))
      rw [hb] at h
      exact h
    refine qb_br (fun e => ?_) (fun e => ⟨vp_in_nI (by omega) (by omega), qb_br (fun z => ?_) (fun z => ?_)⟩)
    · refine wx_jo47 hs (by omega) h1 (h2 i (by omega)) hfound (fun a => ?_)
      have := ih (i + 1) (by omega) (fun o ho => by
        by_cases c : o = i
        · subst c; exact ⟨fun z => by rw [e] at z; exact absurd z (by decide), a⟩
        · exact hn o (by omega))
      rw [qe_x, qe_x, e, Bool.or_false] at this
      exact this
    · have h9 := fun (a : qt_R st pn pr w s i = true → pI i = false) => ih (i + 1) (by omega) (fun o ho => by
        by_cases c : o = i
        · subst c; exact ⟨fun _ => z, a⟩
        · exact hn o (by omega))
      rw [qe_x, qe_x, e, Bool.or_true] at h9
      exact wx_jo47 hs (by omega) h1 (h2 i (by omega)) hfound h9
    · have hb : r = true := hr.mpr (Or.inl ⟨i, by omega, e, z⟩)
      rw [hb] at h
      exact h
theorem wx_join {post : Int32 → Prop} {s : Nat} (hs : s < 4) (hw : wc s ≤ 12) (h1 : st s < 2 ^ 31) (h2 : ∀ i, i < 8 → pn i < 2 ^ 31) (r : Bool) (hr : r = true ↔ (∃ i, i < 8 ∧ qt_T st pn rx pw s i = true ∧ pO i = true) ∨ (∃ i, i < 8 ∧ qt_R st pn pr (qm_s wk (12 * s) (wc s)) s i = true ∧ pI i = true) ∨ ((∃ i, i < 8 ∧ qt_T st pn rx pw s i = true) ∧ (∃ i, i < 8 ∧ qt_R st pn pr (qm_s wk (12 * s) (wc s)) s i = true))) (h : post (qb_i r)) : wpX_wouldJoinTwoArrows post (g, nI C, nI D, ro, dr, qn_F lw, qb_F op, qb_F se, qn_F st, sn, rx, qn_F wc, qn_F wk, wr, qn_F sc, qn_F sv, qn_F pn, pr, pw, qb_F pO, qb_F pI) (nI s) := by
  unfold wpX_wouldJoinTwoArrows
  dsimp only
  refine wx_writeSet hs hw ?_
  exact ⟨9, wx_jo15 hs h1 h2 r hr h 8 0 (by omega) (fun o ho => by omega)⟩
theorem wx_tr2 {post : Int32 → Prop} {b : Int32} {i : Nat} (hi : i < 8) (h1 : ∀ s, s < 4 → op s = true → st s < 2 ^ 31) (h2 : pn i < 2 ^ 31) (h : post (qb_i (qt_K op se st b (pn i)))) : ∀ d o, o + d = 4 → (∀ q, q < o → ¬ nI q = b → op q = true → se q = true → st q < pn i → False) → wX_isTrackedBesides_2 post (nI i) b g (nI C) (nI D) ro dr (qn_F lw) (qb_F op) (qb_F se) (qn_F st) sn rx (qn_F wc) (qn_F wk) wr (qn_F sc) (qn_F sv) (qn_F pn) pr pw (qb_F pO) (qb_F pI) (d + 1) (nI o) := by
  intro d
  induction d with
  | zero =>
    intro o ho hn
    rw [wX_isTrackedBesides_2]
    refine pk_le 4 o (fun _ => ?_) (fun h => absurd h (by omega))
    cases hb : qt_K op se st b (pn i)
    · rw [hb] at h; exact h
    · obtain ⟨q, hq, a1, a2, a3, a4⟩ := qt_iff.mp hb
      exact absurd (hn q (by omega) a1 a2 a3 a4) id
  | succ d ih =>
    intro o ho hn
    have up : ¬ (¬ nI o = b ∧ op o = true ∧ se o = true ∧ st o < pn i) → (∀ q, q < o + 1 → ¬ nI q = b → op q = true → se q = true → st q < pn i → False) := fun hno q hq a1 a2 a3 a4 => by
      by_cases c : q = o
      · subst c; exact hno ⟨a1, a2, a3, a4⟩
      · exact hn q (by omega) a1 a2 a3 a4
    rw [wX_isTrackedBesides_2]
    simp only [nI_1, nI_clamp (show o < 2 ^ 31 by omega), qb_at]
    refine pk_le 4 o (fun h => absurd h (by omega)) (fun _ => br_c (fun e => nm_e (ih (o + 1) (by omega) (up (fun z => z.1 e)))) (fun e => ⟨vp_in_nI (by omega) (by omega), qb_br (fun e1 => nm_e (ih (o + 1) (by omega) (up (fun z => by rw [e1] at z; exact absurd z.2.1 (by decide))))) (fun e1 => ⟨vp_in_nI (by omega) (by omega), qb_br (fun e2 => nm_e (ih (o + 1) (by omega) (up (fun z => by rw [e2] at z; exact absurd z.2.2.1 (by decide))))) (fun e2 => ?_)⟩)⟩))
    refine wx_conc (by omega) hi (h1 o (by omega) e1) h2 ?_
    refine qb_br (fun e3 => nm_e (ih (o + 1) (by omega) (up (fun z => ?_)))) (fun e3 => ?_)
    · exact of_decide_eq_false e3 z.2.2.2
    · have hb : qt_K op se st b (pn i) = true := qt_iff.mpr ⟨o, by omega, e, e1, e2, of_decide_eq_true e3⟩
      rw [hb] at h
      exact h
theorem wx_tr {post : Int32 → Prop} {b : Int32} {i : Nat} (hi : i < 8) (h1 : ∀ s, s < 4 → op s = true → st s < 2 ^ 31) (h2 : pn i < 2 ^ 31) (h : post (qb_i (qt_K op se st b (pn i)))) : wpX_isTrackedBesides post (g, nI C, nI D, ro, dr, qn_F lw, qb_F op, qb_F se, qn_F st, sn, rx, qn_F wc, qn_F wk, wr, qn_F sc, qn_F sv, qn_F pn, pr, pw, qb_F pO, qb_F pI) (nI i) b := by
  unfold wpX_isTrackedBesides
  exact ⟨5, wx_tr2 hi h1 h2 h 4 0 (by omega) (fun q hq => by omega)⟩
theorem wx_tb4 {post : Int32 → Prop} {b : Int32} (h1 : ∀ s, s < 4 → op s = true → st s < 2 ^ 31) (h2 : ∀ i, i < 8 → pn i < 2 ^ 31) (h : post (nI (qc_c (fun i => qt_K op se st b (pn i)) 8))) : ∀ d i, i + d = 8 → wX_trackedBesides_4 post b g (nI C) (nI D) ro dr (qn_F lw) (qb_F op) (qb_F se) (qn_F st) sn rx (qn_F wc) (qn_F wk) wr (qn_F sc) (qn_F sv) (qn_F pn) pr pw (qb_F pO) (qb_F pI) (d + 1) (nI (qc_c (fun i => qt_K op se st b (pn i)) i)) (nI i) := by
  intro d
  induction d with
  | zero =>
    intro i hi
    have hi8 : i = 8 := by omega
    subst hi8
    rw [wX_trackedBesides_4]
    exact pk_le 8 8 (fun _ => h) (fun h => absurd h (by omega))
  | succ d ih =>
    intro i hi
    rw [wX_trackedBesides_4]
    simp only [nI_1]
    refine pk_le 8 i (fun h => absurd h (by omega)) (fun _ => ?_)
    refine wx_tr (by omega) h1 (h2 i (by omega)) ?_
    have hn := ih (i + 1) (by omega)
    rw [qc_c] at hn
    refine qb_br (fun e => nm_e ?_) (fun e => nm_e (nm_e ?_))
    · rw [if_neg (by rw [e]; decide), Nat.add_zero] at hn
      exact hn
    · rw [if_pos e] at hn
      exact hn
theorem wx_tb {post : Int32 → Prop} {b : Int32} (h1 : ∀ s, s < 4 → op s = true → st s < 2 ^ 31) (h2 : ∀ i, i < 8 → pn i < 2 ^ 31) (h : post (nI (qc_c (fun i => qt_K op se st b (pn i)) 8))) : wpX_trackedBesides post (g, nI C, nI D, ro, dr, qn_F lw, qb_F op, qb_F se, qn_F st, sn, rx, qn_F wc, qn_F wk, wr, qn_F sc, qn_F sv, qn_F pn, pr, pw, qb_F pO, qb_F pI) b := by
  unfold wpX_trackedBesides
  exact ⟨9, wx_tb4 h1 h2 h 8 0 (by omega)⟩
theorem wx_us2 {post : Int32 → Prop} {b : Int32} (h1 : ∀ s, s < 4 → op s = true → st s < 2 ^ 31) (h2 : ∀ i, i < 8 → pn i < 2 ^ 31) (hx : ∃ f, f < 8 ∧ qt_K op se st b (pn f) = false) (h : ∀ f, f < 8 → qt_K op se st b (pn f) = false → post (nI f)) : ∀ d i, i + d = 8 → (∀ q, q < i → qt_K op se st b (pn q) = true) → wX_untrackedSlot_2 post b g (nI C) (nI D) ro dr (qn_F lw) (qb_F op) (qb_F se) (qn_F st) sn rx (qn_F wc) (qn_F wk) wr (qn_F sc) (qn_F sv) (qn_F pn) pr pw (qb_F pO) (qb_F pI) (d + 1) (nI i) := by
  intro d
  induction d with
  | zero =>
    intro i hi hn
    obtain ⟨f, hf, e⟩ := hx
    rw [hn f (by omega)] at e
    exact absurd e (by decide)
  | succ d ih =>
    intro i hi hn
    rw [wX_untrackedSlot_2]
    simp only [nI_1]
    refine pk_le 8 i (fun h => absurd h (by omega)) (fun _ => ?_)
    refine wx_tr (by omega) h1 (h2 i (by omega)) ?_
    refine qb_br (fun e => h i (by omega) e) (fun e => nm_e (ih (i + 1) (by omega) (fun q hq => ?_)))
    by_cases c : q = i
    · subst c; exact e
    · exact hn q (by omega)
theorem wx_us {post : Int32 → Prop} {b : Int32} (h1 : ∀ s, s < 4 → op s = true → st s < 2 ^ 31) (h2 : ∀ i, i < 8 → pn i < 2 ^ 31) (hx : ∃ f, f < 8 ∧ qt_K op se st b (pn f) = false) (h : ∀ f, f < 8 → qt_K op se st b (pn f) = false → post (nI f)) : wpX_untrackedSlot post (g, nI C, nI D, ro, dr, qn_F lw, qb_F op, qb_F se, qn_F st, sn, rx, qn_F wc, qn_F wk, wr, qn_F sc, qn_F sv, qn_F pn, pr, pw, qb_F pO, qb_F pI) b := by
  unfold wpX_untrackedSlot
  exact ⟨9, wx_us2 h1 h2 hx h 8 0 (by omega) (fun q hq => by omega)⟩
end
end
section
section
variable {g : Int32} {C D H : Nat} {ro dr sn rx wr pr pw cr cw ry : Nat → Int64} {lw st wc wk sc sv pn hc hk cs yc ys : Nat → Nat} {op se pO pI ht kn yt : Nat → Bool} {hv yv : Nat → Int32}
theorem wx_ap2 {post : SX → Prop} {s : Nat} (hs : s < 4) (hw : wc s ≤ 12) (hp : ∀ p, p < wc s → wk (12 * s + p) < 64) (h : post (g, nI C, nI D, qr_R wk wr (12 * s) ro (wc s), dr, qn_F (qr_N wk C (12 * s) lw (wc s)), qb_F op, qb_F se, qn_F st, sn, rx, qn_F wc, qn_F wk, wr, qn_F sc, qn_F sv, qn_F pn, pr, pw, qb_F pO, qb_F pI)) : ∀ d i, i + d = wc s → wX_applyWrites_2 post (nI s) g (nI C) (nI D) (d + 1) (nI i) (qr_R wk wr (12 * s) ro i) dr (qn_F (qr_N wk C (12 * s) lw i)) (qb_F op) (qb_F se) (qn_F st) sn rx (qn_F wc) (qn_F wk) wr (qn_F sc) (qn_F sv) (qn_F pn) pr pw (qb_F pO) (qb_F pI) := by
  intro d
  induction d with
  | zero =>
    intro i hi
    rw [wX_applyWrites_2]
    simp only [nI_clamp (show s < 2 ^ 31 by omega), qn_at]
    refine ⟨vp_in_nI hs (by omega), pk_le (wc s) i (fun _ => ?_) (fun h => absurd h (by omega))⟩
    have : i = wc s := by omega
    rw [this]
    exact h
  | succ d ih =>
    intro i hi
    have h64 := hp i (by omega)
    rw [wX_applyWrites_2]
    simp only [nI_clamp (show s < 2 ^ 31 by omega), qn_at, qi_12, nI_clamp (show 12 * s + i < 2 ^ 31 by omega), nI_1, qu_L]
    refine ⟨vp_in_nI hs (by omega), pk_le (wc s) i (fun h => absurd h (by omega)) (fun _ => ⟨vp_in_nI (by omega) (by omega), nm_e ⟨vp_in_nI (by omega) (by omega), vp_in_nI h64 (by omega), nm_e ⟨vp_in_nI h64 (by omega), nm_e (nm_e ?_)⟩⟩⟩)⟩
    rw [nI_clamp (show wk (12 * s + i) < 2 ^ 31 by omega), qn_U]
    exact ih (i + 1) (by omega)
theorem wx_ap {post : SX → Prop} {s : Nat} (hs : s < 4) (hw : wc s ≤ 12) (hp : ∀ p, p < wc s → wk (12 * s + p) < 64) (h : post (g, nI C, nI D, qr_R wk wr (12 * s) ro (wc s), dr, qn_F (qr_N wk C (12 * s) lw (wc s)), qb_F op, qb_F se, qn_F st, sn, rx, qn_F wc, qn_F wk, wr, qn_F sc, qn_F sv, qn_F pn, pr, pw, qb_F pO, qb_F pI)) : wpX_applyWrites post (g, nI C, nI D, ro, dr, qn_F lw, qb_F op, qb_F se, qn_F st, sn, rx, qn_F wc, qn_F wk, wr, qn_F sc, qn_F sv, qn_F pn, pr, pw, qb_F pO, qb_F pI) (nI s) := by
  unfold wpX_applyWrites
  exact ⟨wc s + 1, wx_ap2 hs hw hp h (wc s) 0 (by omega)⟩
theorem wx_re43 {post : SX → Prop} {J : Int32 → Int32 → Int32 → (Nat → Int64) → (Nat → Int64) → (Nat → Int32) → (Nat → Int32) → (Nat → Int32) → (Nat → Int32) → (Nat → Int64) → (Nat → Int64) → (Nat → Int32) → (Nat → Int32) → (Nat → Int64) → (Nat → Int32) → (Nat → Int32) → (Nat → Int32) → (Nat → Int64) → (Nat → Int64) → (Nat → Int32) → (Nat → Int32) → Prop} {w : Int64} {x4 : Int32} {b5 : Bool} {s i : Nat} (hs : s < 4) (hi : i < 8) (h1 : st s < 2 ^ 31) (h2 : pn i < 2 ^ 31) (hj : J x4 (qb_i (b5 || qt_R st pn pr w s i)) (nI (i + 1)) ro dr (qn_F lw) (qb_F op) (qb_F se) (qn_F st) sn rx (qn_F wc) (qn_F wk) wr (qn_F sc) (qn_F sv) (qn_F pn) pr pw (qb_F (qf_m pO (qt_R st pn pr w s) (i + 1))) (qb_F pI)) : wX_remember_43 post J (nI s) w x4 (qb_i b5) (nI i) g (nI C) (nI D) ro dr (qn_F lw) (qb_F op) (qb_F se) (qn_F st) sn rx (qn_F wc) (qn_F wk) wr (qn_F sc) (qn_F sv) (qn_F pn) pr pw (qb_F (qf_m pO (qt_R st pn pr w s) i)) (qb_F pI) := by
  unfold wX_remember_43
  refine wx_fr hs hi h1 h2 ?_
  simp only [nI_clamp (show i < 2 ^ 31 by omega), nI_1, qb_nar1, qb_U]
  refine qb_br (fun e => nm_e ?_) (fun e => ⟨vp_in_nI hi (by omega), nm_e (nm_e ?_)⟩)
  · rw [e, Bool.or_false, ← qf_f e] at hj
    exact hj
  · rw [e, Bool.or_true, ← qf_t e] at hj
    exact hj
theorem wx_re15 {post : SX → Prop} {w : Int64} {s : Nat} (hs : s < 4) (h1 : ∀ s, s < 4 → op s = true → st s < 2 ^ 31) (ho : op s = true) (h2 : ∀ i, i < 8 → pn i < 2 ^ 31) (hx : ∃ f, f < 8 ∧ qt_K op se st (nI s) (pn f) = false) (h : ∀ f, f < 8 → qt_K op se st (nI s) (pn f) = false → post (g, nI C, nI D, ro, dr, qn_F lw, qb_F op, qb_F se, qn_F st, sn, rx, qn_F wc, qn_F wk, wr, qn_F sc, qn_F sv, qn_F (qu_p pn f C), qu_p pr f (rx s), qu_p pw f w, qb_F (qu_p (qf_m pO (qt_R st pn pr w s) 8) f (qe_x (qt_T st pn rx pw s) 8)), qb_F (qu_p (qf_m pI (qt_T st pn rx pw s) 8) f (qe_x (qt_R st pn pr w s) 8)))) : ∀ d i, i + d = 8 → wX_remember_15 post (nI s) w g (nI C) (nI D) (d + 1) (qb_i (qe_x (qt_T st pn rx pw s) i)) (qb_i (qe_x (qt_R st pn pr w s) i)) (nI i) ro dr (qn_F lw) (qb_F op) (qb_F se) (qn_F st) sn rx (qn_F wc) (qn_F wk) wr (qn_F sc) (qn_F sv) (qn_F pn) pr pw (qb_F (qf_m pO (qt_R st pn pr w s) i)) (qb_F (qf_m pI (qt_T st pn rx pw s) i)) := by
  intro d
  induction d with
  | zero =>
    intro i hi
    have hi8 : i = 8 := by omega
    subst hi8
    rw [wX_remember_15]
    refine pk_le 8 8 (fun _ => ?_) (fun h => absurd h (by omega))
    refine wx_us h1 h2 hx (fun f hf e => ?_)
    simp only [nI_clamp (show s < 2 ^ 31 by omega), nI_clamp (show f < 2 ^ 31 by omega), qn_U, qu_L, qb_nar, qb_U]
    exact ⟨vp_in_nI hf (by omega), nm_e ⟨vp_in_nI hs (by omega), vp_in_nI hf (by omega), nm_e ⟨vp_in_nI hf (by omega), nm_e ⟨vp_in_nI hf (by omega), nm_e ⟨vp_in_nI hf (by omega), nm_e (h f hf e)⟩⟩⟩⟩⟩
  | succ d ih =>
    intro i hi
    rw [wX_remember_15]
    refine pk_le 8 i (fun h => absurd h (by omega)) (fun _ => ?_)
    refine wx_to hs (by omega) (h1 s hs ho) (h2 i (by omega)) ?_
    simp only [nI_clamp (show i < 2 ^ 31 by omega), qb_nar1, qb_U]
    have hn := ih (i + 1) (by omega)
    rw [qe_x, qe_x] at hn
    refine qb_br (fun e => ?_) (fun e => ⟨vp_in_nI (by omega) (by omega), nm_e ?_⟩)
    · refine wx_re43 hs (by omega) (h1 s hs ho) (h2 i (by omega)) ?_
      rw [e, Bool.or_false, ← qf_f e] at hn
      exact hn
    · refine wx_re43 hs (by omega) (h1 s hs ho) (h2 i (by omega)) ?_
      rw [e, Bool.or_true, ← qf_t e] at hn
      exact hn
theorem wx_rem {post : SX → Prop} {s : Nat} (hs : s < 4) (hw : wc s ≤ 12) (h1 : ∀ s, s < 4 → op s = true → st s < 2 ^ 31) (ho : op s = true) (h2 : ∀ i, i < 8 → pn i < 2 ^ 31) (hx : ∃ f, f < 8 ∧ qt_K op se st (nI s) (pn f) = false) (h : ∀ f, f < 8 → qt_K op se st (nI s) (pn f) = false → post (g, nI C, nI D, ro, dr, qn_F lw, qb_F op, qb_F se, qn_F st, sn, rx, qn_F wc, qn_F wk, wr, qn_F sc, qn_F sv, qn_F (qu_p pn f C), qu_p pr f (rx s), qu_p pw f (qm_s wk (12 * s) (wc s)), qb_F (qu_p (qf_m pO (qt_R st pn pr (qm_s wk (12 * s) (wc s)) s) 8) f (qe_x (qt_T st pn rx pw s) 8)), qb_F (qu_p (qf_m pI (qt_T st pn rx pw s) 8) f (qe_x (qt_R st pn pr (qm_s wk (12 * s) (wc s)) s) 8)))) : wpX_remember post (g, nI C, nI D, ro, dr, qn_F lw, qb_F op, qb_F se, qn_F st, sn, rx, qn_F wc, qn_F wk, wr, qn_F sc, qn_F sv, qn_F pn, pr, pw, qb_F pO, qb_F pI) (nI s) := by
  unfold wpX_remember
  dsimp only
  refine wx_writeSet hs hw ?_
  have hl := wx_re15 (g := g) (D := D) (ro := ro) (dr := dr) (lw := lw) (sn := sn) (wc := wc) (wk := wk) (wr := wr) (sc := sc) (sv := sv) hs h1 ho h2 hx h 8 0 (by omega)
  rw [qf_0, qf_0] at hl
  exact ⟨9, hl⟩
theorem wx_md10 {post : SX → Prop} (h : post (g, nI C, nI D, ro, qk_c dr ro 0 64, qn_F lw, qb_F op, qb_F se, qn_F st, sn, rx, qn_F wc, qn_F wk, wr, qn_F sc, qn_F sv, qn_F pn, pr, pw, qb_F pO, qb_F pI)) : ∀ d i, i + d = 64 → wX_makeDurable_10 post g (nI C) (nI D) (d + 1) (nI i) ro (qk_c dr ro 0 i) (qn_F lw) (qb_F op) (qb_F se) (qn_F st) sn rx (qn_F wc) (qn_F wk) wr (qn_F sc) (qn_F sv) (qn_F pn) pr pw (qb_F pO) (qb_F pI) := by
  intro d
  induction d with
  | zero =>
    intro i hi
    have hi8 : i = 64 := by omega
    subst hi8
    rw [wX_makeDurable_10]
    exact pk_le 64 64 (fun _ => h) (fun h => absurd h (by omega))
  | succ d ih =>
    intro i hi
    rw [wX_makeDurable_10]
    simp only [nI_clamp (show i < 2 ^ 31 by omega), nI_1, qu_L, qk_s0]
    exact pk_le 64 i (fun h => absurd h (by omega)) (fun _ => ⟨vp_in_nI (by omega) (by omega), vp_in_nI (by omega) (by omega), nm_e (nm_e (ih (i + 1) (by omega)))⟩)
theorem wx_md {post : SX → Prop} (h : post (g, nI C, nI C, ro, qk_c dr ro 0 64, qn_F lw, qb_F op, qb_F se, qn_F st, sn, rx, qn_F wc, qn_F wk, wr, qn_F sc, qn_F sv, qn_F pn, pr, pw, qb_F pO, qb_F pI)) : wpX_makeDurable post (g, nI C, nI D, ro, dr, qn_F lw, qb_F op, qb_F se, qn_F st, sn, rx, qn_F wc, qn_F wk, wr, qn_F sc, qn_F sv, qn_F pn, pr, pw, qb_F pO, qb_F pI) := by
  unfold wpX_makeDurable
  have hl := wx_md10 h 64 0 (by omega)
  rw [qk_0] at hl
  exact ⟨65, hl⟩
theorem wx_in172 {post : SX → Prop} (h : post (g, nI C, nI D, qk_c ro (fun _ => 1000000000000) 0 64, qk_c dr (fun _ => 1000000000000) 0 64, qn_F lw, qb_F op, qb_F se, qn_F st, sn, rx, qn_F wc, qn_F wk, wr, qn_F sc, qn_F sv, qn_F pn, pr, pw, qb_F pO, qb_F pI)) : ∀ d i, i + d = 64 → wX_init_172 post g (nI C) (nI D) (d + 1) (nI i) (qk_c ro (fun _ => 1000000000000) 0 i) (qk_c dr (fun _ => 1000000000000) 0 i) (qn_F lw) (qb_F op) (qb_F se) (qn_F st) sn rx (qn_F wc) (qn_F wk) wr (qn_F sc) (qn_F sv) (qn_F pn) pr pw (qb_F pO) (qb_F pI) := by
  intro d
  induction d with
  | zero =>
    intro i hi
    have hi8 : i = 64 := by omega
    subst hi8
    rw [wX_init_172]
    exact pk_le 64 64 (fun _ => h) (fun h => absurd h (by omega))
  | succ d ih =>
    intro i hi
    have e (a : Nat → Int64) : vp_updL (qk_c a (fun _ => 1000000000000) 0 i) i 1000000000000 = qk_c a (fun _ => 1000000000000) 0 (i + 1) := qk_s0 (d := a) (src := fun _ => 1000000000000)
    rw [wX_init_172]
    simp only [nI_clamp (show i < 2 ^ 31 by omega), nI_1, e]
    exact pk_le 64 i (fun h => absurd h (by omega)) (fun _ => ⟨vp_in_nI (by omega) (by omega), nm_e ⟨vp_in_nI (by omega) (by omega), nm_e (nm_e (ih (i + 1) (by omega)))⟩⟩)
theorem wx_be46 {post : Int32 → SX → Prop} {s : Nat} (hs : s < 4) (h : post 0 (g, nI C, nI D, ro, dr, qn_F lw, qb_F op, qb_F se, qn_F st, qk_c sn ro (64 * s) 64, rx, qn_F wc, qn_F wk, wr, qn_F sc, qn_F sv, qn_F pn, pr, pw, qb_F pO, qb_F pI)) : ∀ d i, i + d = 64 → wX_begin_46 post (nI s) g (nI C) (nI D) (d + 1) (nI i) ro dr (qn_F lw) (qb_F op) (qb_F se) (qn_F st) (qk_c sn ro (64 * s) i) rx (qn_F wc) (qn_F wk) wr (qn_F sc) (qn_F sv) (qn_F pn) pr pw (qb_F pO) (qb_F pI) := by
  intro d
  induction d with
  | zero =>
    intro i hi
    have hi8 : i = 64 := by omega
    subst hi8
    rw [wX_begin_46]
    exact pk_le 64 64 (fun _ => h) (fun h => absurd h (by omega))
  | succ d ih =>
    intro i hi
    rw [wX_begin_46]
    simp only [nI_clamp (show i < 2 ^ 31 by omega), nI_1, qi_64, nI_clamp (show 64 * s + i < 2 ^ 31 by omega), qu_L, qk_s]
    exact pk_le 64 i (fun h => absurd h (by omega)) (fun _ => ⟨vp_in_nI (by omega) (by omega), vp_in_nI (by omega) (by omega), nm_e (nm_e (ih (i + 1) (by omega)))⟩)
theorem wx_cr61 {post : Int32 → SX → Prop} (h : post (nI C) (g, nI C, nI D, ro, dr, qn_F lw, qb_F op, qb_F se, qn_F st, sn, rx, qn_F wc, qn_F wk, wr, qn_F sc, qn_F sv, qn_F (qk_c pn (fun _ => 0) 0 8), pr, pw, qb_F pO, qb_F pI)) : ∀ d i, i + d = 8 → wX_crash_61 post g (nI C) (nI D) (d + 1) (nI i) ro dr (qn_F lw) (qb_F op) (qb_F se) (qn_F st) sn rx (qn_F wc) (qn_F wk) wr (qn_F sc) (qn_F sv) (qn_F (qk_c pn (fun _ => 0) 0 i)) pr pw (qb_F pO) (qb_F pI) := by
  intro d
  induction d with
  | zero =>
    intro i hi
    have hi8 : i = 8 := by omega
    subst hi8
    rw [wX_crash_61]
    exact pk_le 8 8 (fun _ => h) (fun h => absurd h (by omega))
  | succ d ih =>
    intro i hi
    have e : qu_p (qk_c pn (fun _ => 0) 0 i) i 0 = qk_c pn (fun _ => 0) 0 (i + 1) := qk_s0 (d := pn) (src := fun _ => 0)
    rw [wX_crash_61]
    simp only [nI_clamp (show i < 2 ^ 31 by omega), nI_1, qn_U0, e]
    exact pk_le 8 i (fun h => absurd h (by omega)) (fun _ => ⟨vp_in_nI (by omega) (by omega), nm_e (nm_e (ih (i + 1) (by omega)))⟩)
theorem wx_cr28 {post : Int32 → SX → Prop} (h : post (nI C) (g, nI C, nI D, qk_c ro dr 0 64, dr, qn_F (qk_c lw (fun _ => 0) 0 64), qb_F op, qb_F se, qn_F st, sn, rx, qn_F wc, qn_F wk, wr, qn_F sc, qn_F sv, qn_F (qk_c pn (fun _ => 0) 0 8), pr, pw, qb_F pO, qb_F pI)) : ∀ d i, i + d = 64 → wX_crash_28 post g (nI C) (nI D) (d + 1) (nI i) (qk_c ro dr 0 i) dr (qn_F (qk_c lw (fun _ => 0) 0 i)) (qb_F op) (qb_F se) (qn_F st) sn rx (qn_F wc) (qn_F wk) wr (qn_F sc) (qn_F sv) (qn_F pn) pr pw (qb_F pO) (qb_F pI) := by
  intro d
  induction d with
  | zero =>
    intro i hi
    have hi8 : i = 64 := by omega
    subst hi8
    rw [wX_crash_28]
    have hl := wx_cr61 h 8 0 (by omega)
    rw [qk_0] at hl
    exact pk_le 64 64 (fun _ => ⟨9, hl⟩) (fun h => absurd h (by omega))
  | succ d ih =>
    intro i hi
    have e : qu_p (qk_c lw (fun _ => 0) 0 i) i 0 = qk_c lw (fun _ => 0) 0 (i + 1) := qk_s0 (d := lw) (src := fun _ => 0)
    rw [wX_crash_28]
    simp only [nI_clamp (show i < 2 ^ 31 by omega), nI_1, qn_U0, e, qu_L, qk_s0]
    exact pk_le 64 i (fun h => absurd h (by omega)) (fun _ => ⟨vp_in_nI (by omega) (by omega), vp_in_nI (by omega) (by omega), nm_e ⟨vp_in_nI (by omega) (by omega), nm_e (nm_e (ih (i + 1) (by omega)))⟩⟩)
theorem wx_cr2 {post : Int32 → SX → Prop} (h : post (nI D) (g, nI D, nI D, qk_c ro dr 0 64, dr, qn_F (qk_c lw (fun _ => 0) 0 64), qb_F (qk_c op (fun _ => false) 0 4), qb_F se, qn_F st, sn, qk_c rx (fun _ => 0) 0 4, qn_F (qk_c wc (fun _ => 0) 0 4), qn_F wk, wr, qn_F (qk_c sc (fun _ => 0) 0 4), qn_F sv, qn_F (qk_c pn (fun _ => 0) 0 8), pr, pw, qb_F pO, qb_F pI)) : ∀ d i, i + d = 4 → wX_crash_2 post (d + 1) (nI i) g (nI C) (nI D) ro dr (qn_F lw) (qb_F (qk_c op (fun _ => false) 0 i)) (qb_F se) (qn_F st) sn (qk_c rx (fun _ => 0) 0 i) (qn_F (qk_c wc (fun _ => 0) 0 i)) (qn_F wk) wr (qn_F (qk_c sc (fun _ => 0) 0 i)) (qn_F sv) (qn_F pn) pr pw (qb_F pO) (qb_F pI) := by
  intro d
  induction d with
  | zero =>
    intro i hi
    have hi8 : i = 4 := by omega
    subst hi8
    rw [wX_crash_2]
    have hl := wx_cr28 h 64 0 (by omega)
    rw [qk_0, qk_0] at hl
    exact pk_le 4 4 (fun _ => ⟨65, hl⟩) (fun h => absurd h (by omega))
  | succ d ih =>
    intro i hi
    rw [wX_crash_2]
    refine pk_le 4 i (fun h => absurd h (by omega)) (fun _ => wx_end (by omega) ?_)
    simp only [nI_1]
    have e1 : qu_p (qk_c op (fun _ => false) 0 i) i false = qk_c op (fun _ => false) 0 (i + 1) := qk_s0 (d := op) (src := fun _ => false)
    have e2 : qu_p (qk_c rx (fun _ => 0) 0 i) i 0 = qk_c rx (fun _ => 0) 0 (i + 1) := qk_s0 (d := rx) (src := fun _ => 0)
    have e3 : qu_p (qk_c wc (fun _ => 0) 0 i) i 0 = qk_c wc (fun _ => 0) 0 (i + 1) := qk_s0 (d := wc) (src := fun _ => 0)
    have e4 : qu_p (qk_c sc (fun _ => 0) 0 i) i 0 = qk_c sc (fun _ => 0) 0 (i + 1) := qk_s0 (d := sc) (src := fun _ => 0)
    rw [e1, e2, e3, e4]
    exact nm_e (ih (i + 1) (by omega))
theorem wx_crash {post : Int32 → SX → Prop} (h : post (nI D) (g, nI D, nI D, qk_c ro dr 0 64, dr, qn_F (qk_c lw (fun _ => 0) 0 64), qb_F (qk_c op (fun _ => false) 0 4), qb_F se, qn_F st, sn, qk_c rx (fun _ => 0) 0 4, qn_F (qk_c wc (fun _ => 0) 0 4), qn_F wk, wr, qn_F (qk_c sc (fun _ => 0) 0 4), qn_F sv, qn_F (qk_c pn (fun _ => 0) 0 8), pr, pw, qb_F pO, qb_F pI)) : wpX_crash post (g, nI C, nI D, ro, dr, qn_F lw, qb_F op, qb_F se, qn_F st, sn, rx, qn_F wc, qn_F wk, wr, qn_F sc, qn_F sv, qn_F pn, pr, pw, qb_F pO, qb_F pI) := by
  unfold wpX_crash
  have hl := wx_cr2 (C := C) h 4 0 (by omega)
  rw [qk_0, qk_0, qk_0, qk_0] at hl
  exact ⟨5, hl⟩
theorem wx_wk4 {post : Int32 → Prop} {s : Nat} (hs : s < 4) (hw : wc s ≤ 12) (hp : ∀ p, p < wc s → wk (12 * s + p) < 64) (h : post (nI (qc_c (fun key => qw_W wk (12 * s) key (wc s)) 64))) : ∀ d i, i + d = 64 → wX_writtenKeys_4 post (nI s) g (nI C) (nI D) ro dr (qn_F lw) (qb_F op) (qb_F se) (qn_F st) sn rx (qn_F wc) (qn_F wk) wr (qn_F sc) (qn_F sv) (qn_F pn) pr pw (qb_F pO) (qb_F pI) (d + 1) (nI (qc_c (fun key => qw_W wk (12 * s) key (wc s)) i)) (nI i) := by
  intro d
  induction d with
  | zero =>
    intro i hi
    have hi8 : i = 64 := by omega
    subst hi8
    rw [wX_writtenKeys_4]
    exact pk_le 64 64 (fun _ => h) (fun h => absurd h (by omega))
  | succ d ih =>
    intro i hi
    rw [wX_writtenKeys_4]
    simp only [nI_1]
    refine pk_le 64 i (fun h => absurd h (by omega)) (fun _ => ?_)
    refine wx_hasWritten hs hw hp (by omega) ?_
    have hn := ih (i + 1) (by omega)
    rw [qc_c] at hn
    refine qb_br (fun e => nm_e ?_) (fun e => nm_e (nm_e ?_))
    · rw [if_neg (by rw [e]; decide), Nat.add_zero] at hn
      exact hn
    · rw [if_pos e] at hn
      exact hn
theorem wx_wk {post : Int32 → Prop} {s : Nat} (hs : s < 4) (hw : wc s ≤ 12) (hp : ∀ p, p < wc s → wk (12 * s + p) < 64) (h : post (nI (qc_c (fun key => qw_W wk (12 * s) key (wc s)) 64))) : wpX_writtenKeys post (g, nI C, nI D, ro, dr, qn_F lw, qb_F op, qb_F se, qn_F st, sn, rx, qn_F wc, qn_F wk, wr, qn_F sc, qn_F sv, qn_F pn, pr, pw, qb_F pO, qb_F pI) (nI s) := by
  unfold wpX_writtenKeys
  exact ⟨65, wx_wk4 hs hw hp h 64 0 (by omega)⟩
theorem wx_nx20 {post : Int32 → SX → Prop} {s : Nat} {F : Nat → Int64} (hs : s < 4) (hw : wc s ≤ 12) (hp : ∀ p, p < wc s → wk (12 * s + p) < 64) (hF : ∀ key, key < 64 → ql_l wk wr (12 * s) key (sn (64 * s + key)) (wc s) = F key) : ∀ d i r, i + d = 64 → post (nI (qx_n F (qo_v wk (wc s) (12 * s)) d i r).1) (g, nI C, nI D, ro, dr, qn_F lw, qb_F op, qb_F se, qn_F st, sn, qu_p rx s (qx_n F (qo_v wk (wc s) (12 * s)) d i r).2, qn_F wc, qn_F wk, wr, qn_F sc, qn_F sv, qn_F pn, pr, pw, qb_F pO, qb_F pI) → wX_next_20 post (nI s) (d + 1) (nI i) g (nI C) (nI D) ro dr (qn_F lw) (qb_F op) (qb_F se) (qn_F st) sn (qu_p rx s r) (qn_F wc) (qn_F wk) wr (qn_F sc) (qn_F sv) (qn_F pn) pr pw (qb_F pO) (qb_F pI) := by
  intro d
  induction d with
  | zero =>
    intro i r hi h
    have hi8 : i = 64 := by omega
    subst hi8
    rw [wX_next_20]
    exact pk_le 64 64 (fun _ => h) (fun h => absurd h (by omega))
  | succ d ih =>
    intro i r hi h
    rw [wX_next_20]
    refine pk_le 64 i (fun h => absurd h (by omega)) (fun _ => ?_)
    refine wx_add hs hw hp (by omega) ?_
    simp only [nI_1, qu_s, qu_qu]
    refine wx_vis hs hw hp (by omega) ?_
    rw [hF i (by omega)]
    rw [qx_n] at h
    refine br_c (fun e => nm_e (ih (i + 1) _ (by omega) ?_)) (fun e => ?_)
    · rw [if_pos e] at h
      exact h
    · rw [if_neg e] at h
      exact h
theorem wx_sm34 {post : Int64 → SX → Prop} {s hb : Nat} {F : Nat → Int64} (hs : s < 4) (hw : wc s ≤ 12) (hp : ∀ p, p < wc s → wk (12 * s + p) < 64) (hF : ∀ key, key < 64 → ql_l wk wr (12 * s) key (sn (64 * s + key)) (wc s) = F key) (hh : hb < 64) : ∀ d i t r, i < 65 → (i + d = hb + 1 ∨ (d = 0 ∧ hb < i)) → post (qx_s F (qo_v wk (wc s) (12 * s)) d i t r).1 (g, nI C, nI D, ro, dr, qn_F lw, qb_F op, qb_F se, qn_F st, sn, qu_p rx s (qx_s F (qo_v wk (wc s) (12 * s)) d i t r).2, qn_F wc, qn_F wk, wr, qn_F sc, qn_F sv, qn_F pn, pr, pw, qb_F pO, qb_F pI) → wX_sum_34 post (nI s) (nI hb) (d + 1) t (nI i) g (nI C) (nI D) ro dr (qn_F lw) (qb_F op) (qb_F se) (qn_F st) sn (qu_p rx s r) (qn_F wc) (qn_F wk) wr (qn_F sc) (qn_F sv) (qn_F pn) pr pw (qb_F pO) (qb_F pI) := by
  intro d
  induction d with
  | zero =>
    intro i t r h65 hi h
    rw [wX_sum_34]
    exact pk_lt hb i (fun _ => h) (fun h => absurd h (by omega))
  | succ d ih =>
    intro i t r h65 hi h
    rw [wX_sum_34]
    refine pk_lt hb i (fun h => absurd h (by omega)) (fun _ => ?_)
    refine wx_add hs hw hp (by omega) ?_
    simp only [nI_1, qu_s, qu_qu]
    refine wx_vis hs hw hp (by omega) ?_
    rw [hF i (by omega)]
    rw [qx_s] at h
    refine br_c (fun e => nm_e (ih (i + 1) _ _ (by omega) (by omega) ?_)) (fun e => nm_e (nm_e (ih (i + 1) _ _ (by omega) (by omega) ?_)))
    · rw [if_pos e] at h
      exact h
    · rw [if_neg e] at h
      exact h
end
end
section
section
variable {g : Int32} {C D H : Nat} {ro dr sn rx wr pr pw cr cw ry : Nat → Int64} {lw st wc wk sc sv pn hc hk cs yc ys : Nat → Nat} {op se pO pI ht kn yt : Nat → Bool} {hv yv : Nat → Int32}
theorem wy_af7 {post : Int64 → Prop} {m key : Nat} (hH : H ≤ 520) (hm : m < 2 ^ 31) (hh : ∀ i, i < H → hc i < 2 ^ 31 ∧ hk i < 2 ^ 31) (hy : key < 64) (h : post (qa_f hc hk (qv_v ht hv) m key H)) : ∀ d i, i + d = H → wY_after_7 post (nI m) (nI key) g (nI C) (nI D) (nI H) (qn_F hc) (qn_F hk) hv (qb_F ht) (qn_F cs) cr cw (qb_F kn) (qb_F op) (qb_F se) (qn_F st) ry (qn_F yc) (qn_F ys) (qn_F wk) yv (qb_F yt) (qn_F sv) (d + 1) (qa_f hc hk (qv_v ht hv) m key i) (nI i) := by
  intro d
  induction d with
  | zero =>
    intro i hi
    rw [wY_after_7]
    refine pk_le H i (fun _ => ?_) (fun h => absurd h (by omega))
    have : i = H := by omega
    rw [this]
    exact h
  | succ d ih =>
    intro i hi
    obtain ⟨h1, h2⟩ := hh i (by omega)
    have hn := ih (i + 1) (by omega)
    have hi5 : vp_in (nI i) 520 := vp_in_nI (by omega) (by omega)
    rw [qa_f] at hn
    rw [wY_after_7]
    simp only [nI_clamp (show i < 2 ^ 31 by omega), qn_at, qb_at, nI_1]
    refine pk_le H i (fun h => absurd h (by omega)) (fun _ => ⟨hi5, pk_lt m (hc i) (fun e => nm_e ?_) (fun e => ⟨hi5, pk_eq (hk i) key (fun e2 => ⟨hi5, qb_br (fun z => nm_e ?_) (fun z => ⟨hi5, nm_e (nm_e ?_)⟩)⟩) (fun e2 => nm_e ?_)⟩)⟩)
    · rw [if_neg (by omega)] at hn
      exact hn
    · rw [if_pos ⟨e, e2⟩, qv_v, if_neg (by rw [z]; decide)] at hn
      exact hn
    · rw [if_pos ⟨e, e2⟩, qv_v, if_pos z] at hn
      exact hn
    · rw [if_neg (by omega)] at hn
      exact hn
theorem wy_after {post : Int64 → Prop} {m key : Nat} (hH : H ≤ 520) (hm : m < 2 ^ 31) (hh : ∀ i, i < H → hc i < 2 ^ 31 ∧ hk i < 2 ^ 31) (hy : key < 64) (h : post (qa_f hc hk (qv_v ht hv) m key H)) : wpY_after post (g, nI C, nI D, nI H, qn_F hc, qn_F hk, hv, qb_F ht, qn_F cs, cr, cw, qb_F kn, qb_F op, qb_F se, qn_F st, ry, qn_F yc, qn_F ys, qn_F wk, yv, qb_F yt, qn_F sv) (nI m) (nI key) := by
  unfold wpY_after
  exact ⟨H + 1, wy_af7 hH hm hh hy h H 0 (by omega)⟩
theorem wy_wr5 {post : Int32 → Prop} {s key : Nat} (hs : s < 4) (hw : yc s ≤ 12) (hp : ∀ p, p < yc s → wk (12 * s + p) < 64) (hy : key < 64) (h : post (qb_i (qw_W wk (12 * s) key (yc s)))) : ∀ d i, i + d = yc s → (∀ p, p < i → wk (12 * s + p) ≠ key) → wY_wrote_5 post (nI s) (nI key) g (nI C) (nI D) (nI H) (qn_F hc) (qn_F hk) hv (qb_F ht) (qn_F cs) cr cw (qb_F kn) (qb_F op) (qb_F se) (qn_F st) ry (qn_F yc) (qn_F ys) (qn_F wk) yv (qb_F yt) (qn_F sv) (d + 1) (nI (12 * s + i)) := by
  intro d
  induction d with
  | zero =>
    intro i hi hn
    rw [wY_wrote_5]
    simp only [nI_clamp (show s < 2 ^ 31 by omega), qn_at, qi_12]
    refine ⟨vp_in_nI hs (by omega), pk_le (12 * s + yc s) (12 * s + i) (fun _ => ?_) (fun h => absurd h (by omega))⟩
    cases hb : qw_W wk (12 * s) key (yc s)
    · rw [hb] at h; exact h
    · obtain ⟨p, hpp, e⟩ := (qw_iff _).mp hb
      exact absurd e (hn p (by omega))
  | succ d ih =>
    intro i hi hn
    have h64 := hp i (by omega)
    rw [wY_wrote_5]
    simp only [nI_clamp (show s < 2 ^ 31 by omega), qn_at, qi_12, nI_clamp (show 12 * s + i < 2 ^ 31 by omega), nI_1]
    refine ⟨vp_in_nI hs (by omega), pk_le (12 * s + yc s) (12 * s + i) (fun h => absurd h (by omega)) (fun _ => ⟨vp_in_nI (by omega) (by omega), pk_eq (wk (12 * s + i)) key (fun e => ?_) (fun e => nm_e (ih (i + 1) (by omega) (fun p hpp => ?_)))⟩)⟩
    · have hb : qw_W wk (12 * s) key (yc s) = true := (qw_iff _).mpr ⟨i, by omega, e⟩
      rw [hb] at h
      exact h
    · by_cases c : p = i
      · subst c; exact e
      · exact hn p (by omega)
theorem wy_wrote {post : Int32 → Prop} {s key : Nat} (hs : s < 4) (hw : yc s ≤ 12) (hp : ∀ p, p < yc s → wk (12 * s + p) < 64) (hy : key < 64) (h : post (qb_i (qw_W wk (12 * s) key (yc s)))) : wpY_wrote post (g, nI C, nI D, nI H, qn_F hc, qn_F hk, hv, qb_F ht, qn_F cs, cr, cw, qb_F kn, qb_F op, qb_F se, qn_F st, ry, qn_F yc, qn_F ys, qn_F wk, yv, qb_F yt, qn_F sv) (nI s) (nI key) := by
  unfold wpY_wrote
  simp only [qi_12']
  exact nm_e ⟨yc s + 1, wy_wr5 hs hw hp hy h (yc s) 0 (by omega) (fun p hp => by omega)⟩
theorem wy_se18 {post : Int64 → Prop} {s key : Nat} {d0 : Int64} (hs : s < 4) (hw : yc s ≤ 12) (hp : ∀ p, p < yc s → wk (12 * s + p) < 64) (hy : key < 64) (h : post (ql_l wk (qv_v yt yv) (12 * s) key d0 (yc s))) : ∀ d i, i + d = yc s → wY_sees_18 post (nI s) (nI key) g (nI C) (nI D) (nI H) (qn_F hc) (qn_F hk) hv (qb_F ht) (qn_F cs) cr cw (qb_F kn) (qb_F op) (qb_F se) (qn_F st) ry (qn_F yc) (qn_F ys) (qn_F wk) yv (qb_F yt) (qn_F sv) (d + 1) (ql_l wk (qv_v yt yv) (12 * s) key d0 i) (nI (12 * s + i)) := by
  intro d
  induction d with
  | zero =>
    intro i hi
    rw [wY_sees_18]
    simp only [nI_clamp (show s < 2 ^ 31 by omega), qn_at, qi_12]
    refine ⟨vp_in_nI hs (by omega), pk_le (12 * s + yc s) (12 * s + i) (fun _ => ?_) (fun h => absurd h (by omega))⟩
    have : i = yc s := by omega
    rw [this]
    exact h
  | succ d ih =>
    intro i hi
    have h64 := hp i (by omega)
    have hn := ih (i + 1) (by omega)
    have hi5 : vp_in (nI (12 * s + i)) 48 := vp_in_nI (by omega) (by omega)
    rw [ql_l] at hn
    rw [wY_sees_18]
    simp only [nI_clamp (show s < 2 ^ 31 by omega), qn_at, qb_at, qi_12, nI_clamp (show 12 * s + i < 2 ^ 31 by omega), nI_1]
    refine ⟨vp_in_nI hs (by omega), pk_le (12 * s + yc s) (12 * s + i) (fun h => absurd h (by omega)) (fun _ => ⟨hi5, pk_eq (wk (12 * s + i)) key (fun e => ⟨hi5, qb_br (fun z => nm_e ?_) (fun z => ⟨hi5, nm_e (nm_e ?_)⟩)⟩) (fun e => nm_e ?_)⟩)⟩
    · rw [if_pos e, qv_v, if_neg (by rw [z]; decide)] at hn
      exact hn
    · rw [if_pos e, qv_v, if_pos z] at hn
      exact hn
    · rw [if_neg e] at hn
      exact hn
theorem wy_sees {post : Int64 → Prop} {s key : Nat} (hs : s < 4) (hw : yc s ≤ 12) (hp : ∀ p, p < yc s → wk (12 * s + p) < 64) (hy : key < 64) (hH : H ≤ 520) (hm : st s < 2 ^ 31) (hh : ∀ i, i < H → hc i < 2 ^ 31 ∧ hk i < 2 ^ 31) (h : post (ql_l wk (qv_v yt yv) (12 * s) key (qa_f hc hk (qv_v ht hv) (st s) key H) (yc s))) : wpY_sees post (g, nI C, nI D, nI H, qn_F hc, qn_F hk, hv, qb_F ht, qn_F cs, cr, cw, qb_F kn, qb_F op, qb_F se, qn_F st, ry, qn_F yc, qn_F ys, qn_F wk, yv, qb_F yt, qn_F sv) (nI s) (nI key) := by
  unfold wpY_sees
  simp only [nI_clamp (show s < 2 ^ 31 by omega), qn_at, qi_12']
  refine ⟨vp_in_nI hs (by omega), wy_after hH hm hh hy ?_⟩
  exact nm_e ⟨yc s + 1, wy_se18 hs hw hp hy h (yc s) 0 (by omega)⟩
theorem wy_note {post : SY → Prop} {s key : Nat} (hs : s < 4) (hw : yc s ≤ 12) (hp : ∀ p, p < yc s → wk (12 * s + p) < 64) (hy : key < 64) (h : post (g, nI C, nI D, nI H, qn_F hc, qn_F hk, hv, qb_F ht, qn_F cs, cr, cw, qb_F kn, qb_F op, qb_F se, qn_F st, qu_p ry s (qo_v wk (yc s) (12 * s) key (ry s)), qn_F yc, qn_F ys, qn_F wk, yv, qb_F yt, qn_F sv)) : wpY_note post (g, nI C, nI D, nI H, qn_F hc, qn_F hk, hv, qb_F ht, qn_F cs, cr, cw, qb_F kn, qb_F op, qb_F se, qn_F st, ry, qn_F yc, qn_F ys, qn_F wk, yv, qb_F yt, qn_F sv) (nI s) (nI key) := by
  unfold wpY_note
  dsimp only
  refine wy_wrote hs hw hp hy ?_
  simp only [qm_d, nI_clamp (show s < 2 ^ 31 by omega), qu_L]
  refine qb_br (fun e => ?_) (fun e => ?_)
  · rw [qo_v, if_neg (by rw [e]; decide)] at h
    exact ⟨vp_in_nI hs (by omega), vp_in_nI hs (by omega), nm_e h⟩
  · rw [qo_v, if_pos e, qu_id] at h
    exact h
theorem wy_ws8 {post : Int64 → Prop} {s : Nat} (hs : s < 4) (hw : yc s ≤ 12) (h : post (qm_s wk (12 * s) (yc s))) : ∀ d i, i + d = yc s → wY_writeSet_8 post (nI s) g (nI C) (nI D) (nI H) (qn_F hc) (qn_F hk) hv (qb_F ht) (qn_F cs) cr cw (qb_F kn) (qb_F op) (qb_F se) (qn_F st) ry (qn_F yc) (qn_F ys) (qn_F wk) yv (qb_F yt) (qn_F sv) (d + 1) (qm_s wk (12 * s) i) (nI (12 * s + i)) := by
  intro d
  induction d with
  | zero =>
    intro i hi
    rw [wY_writeSet_8]
    simp only [nI_clamp (show s < 2 ^ 31 by omega), qn_at, qi_12]
    refine ⟨vp_in_nI hs (by omega), pk_le (12 * s + yc s) (12 * s + i) (fun _ => ?_) (fun h => absurd h (by omega))⟩
    have : i = yc s := by omega
    rw [this]
    exact h
  | succ d ih =>
    intro i hi
    rw [wY_writeSet_8]
    simp only [nI_clamp (show s < 2 ^ 31 by omega), qn_at, qi_12, nI_clamp (show 12 * s + i < 2 ^ 31 by omega), qm_d, nI_1]
    exact ⟨vp_in_nI hs (by omega), pk_le (12 * s + yc s) (12 * s + i) (fun h => absurd h (by omega)) (fun _ => ⟨vp_in_nI (by omega) (by omega), nm_e (nm_e (ih (i + 1) (by omega)))⟩)⟩
theorem wy_writeSet {post : Int64 → Prop} {s : Nat} (hs : s < 4) (hw : yc s ≤ 12) (h : post (qm_s wk (12 * s) (yc s))) : wpY_writeSet post (g, nI C, nI D, nI H, qn_F hc, qn_F hk, hv, qb_F ht, qn_F cs, cr, cw, qb_F kn, qb_F op, qb_F se, qn_F st, ry, qn_F yc, qn_F ys, qn_F wk, yv, qb_F yt, qn_F sv) (nI s) := by
  unfold wpY_writeSet
  simp only [qi_12']
  exact nm_e ⟨yc s + 1, wy_ws8 hs hw h (yc s) 0 (by omega)⟩
theorem wy_nx20 {post : Int32 → SY → Prop} {s : Nat} {F : Nat → Int64} (hs : s < 4) (hw : yc s ≤ 12) (hp : ∀ p, p < yc s → wk (12 * s + p) < 64) (hH : H ≤ 520) (hm : st s < 2 ^ 31) (hh : ∀ i, i < H → hc i < 2 ^ 31 ∧ hk i < 2 ^ 31) (hF : ∀ key, key < 64 → ql_l wk (qv_v yt yv) (12 * s) key (qa_f hc hk (qv_v ht hv) (st s) key H) (yc s) = F key) : ∀ d i r, i + d = 64 → post (nI (qx_n F (qo_v wk (yc s) (12 * s)) d i r).1) (g, nI C, nI D, nI H, qn_F hc, qn_F hk, hv, qb_F ht, qn_F cs, cr, cw, qb_F kn, qb_F op, qb_F se, qn_F st, qu_p ry s (qx_n F (qo_v wk (yc s) (12 * s)) d i r).2, qn_F yc, qn_F ys, qn_F wk, yv, qb_F yt, qn_F sv) → wY_next_20 post (nI s) (d + 1) (nI i) g (nI C) (nI D) (nI H) (qn_F hc) (qn_F hk) hv (qb_F ht) (qn_F cs) cr cw (qb_F kn) (qb_F op) (qb_F se) (qn_F st) (qu_p ry s r) (qn_F yc) (qn_F ys) (qn_F wk) yv (qb_F yt) (qn_F sv) := by
  intro d
  induction d with
  | zero =>
    intro i r hi h
    have hi8 : i = 64 := by omega
    subst hi8
    rw [wY_next_20]
    exact pk_le 64 64 (fun _ => h) (fun h => absurd h (by omega))
  | succ d ih =>
    intro i r hi h
    rw [wY_next_20]
    refine pk_le 64 i (fun h => absurd h (by omega)) (fun _ => ?_)
    refine wy_note hs hw hp (by omega) ?_
    simp only [nI_1, qu_s, qu_qu]
    refine wy_sees hs hw hp (by omega) hH hm hh ?_
    rw [hF i (by omega)]
    rw [qx_n] at h
    refine br_c (fun e => nm_e (ih (i + 1) _ (by omega) ?_)) (fun e => ?_)
    · rw [if_pos e] at h
      exact h
    · rw [if_neg e] at h
      exact h
theorem wy_sm34 {post : Int64 → SY → Prop} {s hb : Nat} {F : Nat → Int64} (hs : s < 4) (hw : yc s ≤ 12) (hp : ∀ p, p < yc s → wk (12 * s + p) < 64) (hH : H ≤ 520) (hm : st s < 2 ^ 31) (hh : ∀ i, i < H → hc i < 2 ^ 31 ∧ hk i < 2 ^ 31) (hF : ∀ key, key < 64 → ql_l wk (qv_v yt yv) (12 * s) key (qa_f hc hk (qv_v ht hv) (st s) key H) (yc s) = F key) (h64 : hb < 64) : ∀ d i t r, i < 65 → (i + d = hb + 1 ∨ (d = 0 ∧ hb < i)) → post (qx_s F (qo_v wk (yc s) (12 * s)) d i t r).1 (g, nI C, nI D, nI H, qn_F hc, qn_F hk, hv, qb_F ht, qn_F cs, cr, cw, qb_F kn, qb_F op, qb_F se, qn_F st, qu_p ry s (qx_s F (qo_v wk (yc s) (12 * s)) d i t r).2, qn_F yc, qn_F ys, qn_F wk, yv, qb_F yt, qn_F sv) → wY_sum_34 post (nI s) (nI hb) (d + 1) t (nI i) g (nI C) (nI D) (nI H) (qn_F hc) (qn_F hk) hv (qb_F ht) (qn_F cs) cr cw (qb_F kn) (qb_F op) (qb_F se) (qn_F st) (qu_p ry s r) (qn_F yc) (qn_F ys) (qn_F wk) yv (qb_F yt) (qn_F sv) := by
  intro d
  induction d with
  | zero =>
    intro i t r h65 hi h
    rw [wY_sum_34]
    exact pk_lt hb i (fun _ => h) (fun h => absurd h (by omega))
  | succ d ih =>
    intro i t r h65 hi h
    rw [wY_sum_34]
    refine pk_lt hb i (fun h => absurd h (by omega)) (fun _ => ?_)
    refine wy_note hs hw hp (by omega) ?_
    simp only [nI_1, qu_s, qu_qu]
    refine wy_sees hs hw hp (by omega) hH hm hh ?_
    rw [hF i (by omega)]
    rw [qx_s] at h
    refine br_c (fun e => nm_e (ih (i + 1) _ _ (by omega) (by omega) ?_)) (fun e => nm_e (nm_e (ih (i + 1) _ _ (by omega) (by omega) ?_)))
    · rw [if_pos e] at h
      exact h
    · rw [if_neg e] at h
      exact h
theorem wy_wr64 {post : Int32 → SY → Prop} {s key : Nat} {x3 : Int32} {b4 : Bool} (hs : s < 4) (hw : yc s ≤ 12) (hy : key < 64) (hH : H ≤ 520) (hm : st s < 2 ^ 31) (hh : ∀ i, i < H → hc i < 2 ^ 31 ∧ hk i < 2 ^ 31) (h1 : (∃ i, i < H ∧ st s < hc i ∧ hk i = key) → post 2 (g, nI C, nI D, nI H, qn_F hc, qn_F hk, hv, qb_F ht, qn_F cs, cr, cw, qb_F kn, qb_F (qu_p op s false), qb_F se, qn_F st, ry, qn_F yc, qn_F ys, qn_F wk, yv, qb_F yt, qn_F sv)) (h0 : ¬ (∃ i, i < H ∧ st s < hc i ∧ hk i = key) → (yc s = 12 → post 4 (g, nI C, nI D, nI H, qn_F hc, qn_F hk, hv, qb_F ht, qn_F cs, cr, cw, qb_F kn, qb_F op, qb_F se, qn_F st, ry, qn_F yc, qn_F ys, qn_F wk, yv, qb_F yt, qn_F sv)) ∧ (yc s ≠ 12 → post 0 (g, nI C, nI D, nI H, qn_F hc, qn_F hk, hv, qb_F ht, qn_F cs, cr, cw, qb_F kn, qb_F op, qb_F se, qn_F st, ry, qn_F (qu_p yc s (yc s + 1)), qn_F ys, qn_F (qu_p wk (12 * s + yc s) key), qu_p yv (12 * s + yc s) x3, qb_F (qu_p yt (12 * s + yc s) b4), qn_F sv))) : ∀ d i, i + d = H → (∀ q, q < i → ¬ (st s < hc q ∧ hk q = key)) → wY_write_64 post (nI s) (nI key) x3 (qb_i b4) g (nI C) (nI D) (nI H) (qn_F hc) (qn_F hk) hv (qb_F ht) (qn_F cs) cr cw (qb_F kn) (qb_F op) (qb_F se) (qn_F st) ry (qn_F yc) (qn_F ys) (qn_F wk) yv (qb_F yt) (qn_F sv) (d + 1) (nI i) := by
  intro d
  induction d with
  | zero =>
    intro i hi hn
    obtain ⟨ha, hb⟩ := h0 (fun ⟨q, hq, e⟩ => hn q (by omega) e)
    have hs4 : vp_in (nI s) 4 := vp_in_nI hs (by omega)
    rw [wY_write_64]
    simp only [nI_clamp (show s < 2 ^ 31 by omega), qn_at, qi_12, nI_clamp (show 12 * s + yc s < 2 ^ 31 by omega), qb_nar, qb_U, qn_U, nI_1]
    refine pk_le H i (fun _ => ⟨hs4, pk_eq (yc s) 12 (fun e => ha e) (fun e => ⟨hs4, nm_e ?_⟩)⟩) (fun h => absurd h (by omega))
    have hi5 : vp_in (nI (12 * s + yc s)) 48 := vp_in_nI (by omega) (by omega)
    simp only [nI_clamp (show 12 * s + yc s < 2 ^ 31 by omega), qb_U, qn_U]
    have hq := hb e
    exact ⟨hi5, nm_e ⟨hi5, nm_e ⟨hi5, nm_e ⟨hs4, hs4, nm_e hq⟩⟩⟩⟩
  | succ d ih =>
    intro i hi hn
    obtain ⟨g1, g2⟩ := hh i (by omega)
    have hs4 : vp_in (nI s) 4 := vp_in_nI hs (by omega)
    have hi5 : vp_in (nI i) 520 := vp_in_nI (by omega) (by omega)
    rw [wY_write_64]
    simp only [nI_clamp (show s < 2 ^ 31 by omega), nI_clamp (show i < 2 ^ 31 by omega), qn_at, qb_nar0, qb_U, nI_1]
    refine pk_le H i (fun h => absurd h (by omega)) (fun _ => ⟨hi5, hs4, pk_le (hc i) (st s) (fun e => nm_e (ih (i + 1) (by omega) (fun q hq => ?_))) (fun e => ⟨hi5, pk_eq (hk i) key (fun e2 => ⟨hs4, nm_e (h1 ⟨i, by omega, e, e2⟩)⟩) (fun e2 => nm_e (ih (i + 1) (by omega) (fun q hq => ?_)))⟩)⟩)
    · by_cases c : q = i
      · subst c; intro z; omega
      · exact hn q (by omega)
    · by_cases c : q = i
      · subst c; intro z; omega
      · exact hn q (by omega)
theorem wy_wr21 {post : Int32 → SY → Prop} {s key : Nat} {x3 x4 : Int32} (hs : s < 4) (hw : ∀ o, o < 4 → op o = true → yc o ≤ 12) (hp : ∀ o, o < 4 → op o = true → ∀ p, p < yc o → wk (12 * o + p) < 64) (hy : key < 64) (h1 : (∃ o, o < 4 ∧ o ≠ s ∧ op o = true ∧ qw_W wk (12 * o) key (yc o) = true) → post 1 (g, nI C, nI D, nI H, qn_F hc, qn_F hk, hv, qb_F ht, qn_F cs, cr, cw, qb_F kn, qb_F op, qb_F se, qn_F st, ry, qn_F yc, qn_F ys, qn_F wk, yv, qb_F yt, qn_F sv)) (h0 : ¬ (∃ o, o < 4 ∧ o ≠ s ∧ op o = true ∧ qw_W wk (12 * o) key (yc o) = true) → ∃ n64, wY_write_64 post (nI s) (nI key) x3 x4 g (nI C) (nI D) (nI H) (qn_F hc) (qn_F hk) hv (qb_F ht) (qn_F cs) cr cw (qb_F kn) (qb_F op) (qb_F se) (qn_F st) ry (qn_F yc) (qn_F ys) (qn_F wk) yv (qb_F yt) (qn_F sv) n64 0) : ∀ d i, i + d = 4 → (∀ o, o < i → ¬ (o ≠ s ∧ op o = true ∧ qw_W wk (12 * o) key (yc o) = true)) → wY_write_21 post (nI s) (nI key) x3 x4 g (nI C) (nI D) (nI H) (qn_F hc) (qn_F hk) hv (qb_F ht) (qn_F cs) cr cw (qb_F kn) (qb_F op) (qb_F se) (qn_F st) ry (qn_F yc) (qn_F ys) (qn_F wk) yv (qb_F yt) (qn_F sv) (d + 1) (nI i) := by
  intro d
  induction d with
  | zero =>
    intro i hi hn
    rw [wY_write_21]
    exact pk_le 4 i (fun _ => h0 (fun ⟨q, hq, e⟩ => hn q (by omega) e)) (fun h => absurd h (by omega))
  | succ d ih =>
    intro i hi hn
    have up : ¬ (i ≠ s ∧ op i = true ∧ qw_W wk (12 * i) key (yc i) = true) → (∀ o, o < i + 1 → ¬ (o ≠ s ∧ op o = true ∧ qw_W wk (12 * o) key (yc o) = true)) := fun z o ho => by
      by_cases c : o = i
      · subst c; exact z
      · exact hn o (by omega)
    rw [wY_write_21]
    simp only [nI_clamp (show i < 2 ^ 31 by omega), qb_at, nI_1]
    refine pk_le 4 i (fun h => absurd h (by omega)) (fun _ => pk_eq i s (fun e => nm_e (ih (i + 1) (by omega) (up (fun z => z.1 e)))) (fun e => ⟨vp_in_nI (by omega) (by omega), qb_br (fun e1 => nm_e (ih (i + 1) (by omega) (up (fun z => by rw [e1] at z; exact absurd z.2.1 (by decide))))) (fun e1 => ?_)⟩))
    refine wy_wrote (by omega) (hw i (by omega) e1) (hp i (by omega) e1) hy ?_
    refine qb_br (fun e2 => nm_e (ih (i + 1) (by omega) (up (fun z => by rw [e2] at z; exact absurd z.2.2 (by decide))))) (fun e2 => h1 ⟨i, by omega, e, e1, e2⟩)
end
end
section
/-- i -> j, as the reference reckons it -/
def qr_B (cs : Nat → Nat) (cr cw : Nat → Int64) (kn : Nat → Bool) (i j : Nat) : Prop := i ≠ j ∧ kn i = true ∧ kn j = true ∧ cs i < j ∧ cs j < i ∧ ¬ (cr i &&& cw j) = 0
section
variable {g : Int32} {C D H : Nat} {ro dr sn rx wr pr pw cr cw ry : Nat → Int64} {lw st wc wk sc sv pn hc hk cs yc ys : Nat → Nat} {op se pO pI ht kn yt : Nat → Bool} {hv yv : Nat → Int32}
theorem wy_ar {post : Int32 → Prop} {i j : Nat} (hi : i < 520) (hj : j < 520) (hcs : ∀ i, kn i = true → cs i < 2 ^ 31) (h1 : qr_B cs cr cw kn i j → post 1) (h0 : ¬ qr_B cs cr cw kn i j → post 0) : wpY_arrow post (g, nI C, nI D, nI H, qn_F hc, qn_F hk, hv, qb_F ht, qn_F cs, cr, cw, qb_F kn, qb_F op, qb_F se, qn_F st, ry, qn_F yc, qn_F ys, qn_F wk, yv, qb_F yt, qn_F sv) (nI i) (nI j) := by
  unfold wpY_arrow
  have hi5 : vp_in (nI i) 520 := vp_in_nI hi (by omega)
  have hj5 : vp_in (nI j) 520 := vp_in_nI hj (by omega)
  simp only [nI_clamp (show i < 2 ^ 31 by omega), nI_clamp (show j < 2 ^ 31 by omega), qn_at, qb_at]
  refine pk_eq i j (fun e => h0 (fun z => z.1 e)) (fun e => ⟨hi5, qb_br (fun e1 => h0 (fun z => absurd (e1.symm.trans z.2.1) (by decide))) (fun e1 => ⟨hj5, qb_br (fun e2 => h0 (fun z => absurd (e2.symm.trans z.2.2.1) (by decide))) (fun e2 => ⟨hi5, ?_⟩)⟩)⟩)
  have c1 := hcs i e1
  have c2 := hcs j e2
  refine pk_le j (cs i) (fun e3 => h0 (fun z => by have := z.2.2.2.1; omega)) (fun e3 => ⟨hj5, pk_le i (cs j) (fun e4 => h0 (fun z => by have := z.2.2.2.2.1; omega)) (fun e4 => ⟨hi5, hj5, br_c (fun e5 => h0 (fun z => z.2.2.2.2.2 e5)) (fun e5 => h1 ⟨e, e1, e2, e3, e4, e5⟩)⟩)⟩)
theorem wy_fs2 {post : Int32 → Prop} {p : Nat} (hC : C < 512) (hp : p < 520) (hcs : ∀ i, kn i = true → cs i < 2 ^ 31) (h1 : (∃ i, qr_B cs cr cw kn i p) → post 1) (h0 : ¬ (∃ i, qr_B cs cr cw kn i p) → post 0) (hkn : ∀ i, kn i = true → 1 ≤ i ∧ i ≤ C + 1) : ∀ d i, i + d = C + 2 → (∀ q, q < i → ¬ qr_B cs cr cw kn q p) → wY_arrowFromSome_2 post (nI p) g (nI C) (nI D) (nI H) (qn_F hc) (qn_F hk) hv (qb_F ht) (qn_F cs) cr cw (qb_F kn) (qb_F op) (qb_F se) (qn_F st) ry (qn_F yc) (qn_F ys) (qn_F wk) yv (qb_F yt) (qn_F sv) (d + 1) (nI i) := by
  intro d
  induction d with
  | zero =>
    intro i hi hn
    rw [wY_arrowFromSome_2]
    simp only [nI_1]
    exact pk_lt (C + 1) i (fun _ => h0 (fun ⟨q, hq⟩ => hn q (by have := (hkn q hq.2.1).2; omega) hq)) (fun h => absurd h (by omega))
  | succ d ih =>
    intro i hi hn
    rw [wY_arrowFromSome_2]
    simp only [nI_1]
    refine pk_lt (C + 1) i (fun h => absurd h (by omega)) (fun _ => wy_ar (by omega) hp hcs (fun a => ?_) (fun a => ?_))
    · exact br_f (by decide) (h1 ⟨i, a⟩)
    · refine br_t rfl (nm_e (ih (i + 1) (by omega) (fun q hq => ?_)))
      by_cases c : q = i
      · subst c; exact a
      · exact hn q (by omega)
theorem wy_fs {post : Int32 → Prop} {p : Nat} (hC : C < 512) (hp : p < 520) (hcs : ∀ i, kn i = true → cs i < 2 ^ 31) (hkn : ∀ i, kn i = true → 1 ≤ i ∧ i ≤ C + 1) (h1 : (∃ i, qr_B cs cr cw kn i p) → post 1) (h0 : ¬ (∃ i, qr_B cs cr cw kn i p) → post 0) : wpY_arrowFromSome post (g, nI C, nI D, nI H, qn_F hc, qn_F hk, hv, qb_F ht, qn_F cs, cr, cw, qb_F kn, qb_F op, qb_F se, qn_F st, ry, qn_F yc, qn_F ys, qn_F wk, yv, qb_F yt, qn_F sv) (nI p) := by
  unfold wpY_arrowFromSome
  exact ⟨C + 2, wy_fs2 hC hp hcs h1 h0 hkn (C + 1) 1 (by omega) (fun q hq z => by have := (hkn q z.2.1).1; omega)⟩
theorem wy_ts2 {post : Int32 → Prop} {p : Nat} (hC : C < 512) (hp : p < 520) (hcs : ∀ i, kn i = true → cs i < 2 ^ 31) (h1 : (∃ j, qr_B cs cr cw kn p j) → post 1) (h0 : ¬ (∃ j, qr_B cs cr cw kn p j) → post 0) (hkn : ∀ i, kn i = true → 1 ≤ i ∧ i ≤ C + 1) : ∀ d i, i + d = C + 2 → (∀ q, q < i → ¬ qr_B cs cr cw kn p q) → wY_arrowToSome_2 post (nI p) g (nI C) (nI D) (nI H) (qn_F hc) (qn_F hk) hv (qb_F ht) (qn_F cs) cr cw (qb_F kn) (qb_F op) (qb_F se) (qn_F st) ry (qn_F yc) (qn_F ys) (qn_F wk) yv (qb_F yt) (qn_F sv) (d + 1) (nI i) := by
  intro d
  induction d with
  | zero =>
    intro i hi hn
    rw [wY_arrowToSome_2]
    simp only [nI_1]
    exact pk_lt (C + 1) i (fun _ => h0 (fun ⟨q, hq⟩ => hn q (by have := (hkn q hq.2.2.1).2; omega) hq)) (fun h => absurd h (by omega))
  | succ d ih =>
    intro i hi hn
    rw [wY_arrowToSome_2]
    simp only [nI_1]
    refine pk_lt (C + 1) i (fun h => absurd h (by omega)) (fun _ => wy_ar hp (by omega) hcs (fun a => ?_) (fun a => ?_))
    · exact br_f (by decide) (h1 ⟨i, a⟩)
    · refine br_t rfl (nm_e (ih (i + 1) (by omega) (fun q hq => ?_)))
      by_cases c : q = i
      · subst c; exact a
      · exact hn q (by omega)
theorem wy_ts {post : Int32 → Prop} {p : Nat} (hC : C < 512) (hp : p < 520) (hcs : ∀ i, kn i = true → cs i < 2 ^ 31) (hkn : ∀ i, kn i = true → 1 ≤ i ∧ i ≤ C + 1) (h1 : (∃ j, qr_B cs cr cw kn p j) → post 1) (h0 : ¬ (∃ j, qr_B cs cr cw kn p j) → post 0) : wpY_arrowToSome post (g, nI C, nI D, nI H, qn_F hc, qn_F hk, hv, qb_F ht, qn_F cs, cr, cw, qb_F kn, qb_F op, qb_F se, qn_F st, ry, qn_F yc, qn_F ys, qn_F wk, yv, qb_F yt, qn_F sv) (nI p) := by
  unfold wpY_arrowToSome
  exact ⟨C + 2, wy_ts2 hC hp hcs h1 h0 hkn (C + 1) 1 (by omega) (fun q hq z => by have := (hkn q z.2.2.1).1; omega)⟩
theorem wy_da37 {post : Int32 → Prop} {J : Int32 → Prop} {x1 : Int32} {p : Nat} (hC : C < 512) (hp : p < 520) (hcs : ∀ i, kn i = true → cs i < 2 ^ 31) (hkn : ∀ i, kn i = true → 1 ≤ i ∧ i ≤ C + 1) (h1 : (∃ i, qr_B cs cr cw kn i p) → (∃ j, qr_B cs cr cw kn p j) → post 1) (h0 : ¬ ((∃ i, qr_B cs cr cw kn i p) ∧ (∃ j, qr_B cs cr cw kn p j)) → J (nI (p + 1))) : wY_dangerous_37 post J x1 (nI p) g (nI C) (nI D) (nI H) (qn_F hc) (qn_F hk) hv (qb_F ht) (qn_F cs) cr cw (qb_F kn) (qb_F op) (qb_F se) (qn_F st) ry (qn_F yc) (qn_F ys) (qn_F wk) yv (qb_F yt) (qn_F sv) := by
  unfold wY_dangerous_37
  simp only [nI_1]
  refine wy_fs hC hp hcs hkn (fun a => br_f (by decide) ?_) (fun a => br_t rfl (nm_e (h0 (fun z => a z.1))))
  exact wy_ts hC hp hcs hkn (fun b => br_f (by decide) (h1 a b)) (fun b => br_t rfl (nm_e (h0 (fun z => b z.2))))
/-- what makes commit number n fail -/
def qr_D (cs : Nat → Nat) (cr cw : Nat → Int64) (kn : Nat → Bool) (n m : Nat) : Prop := (m = n ∨ qr_B cs cr cw kn m n ∨ qr_B cs cr cw kn n m) ∧ (∃ i, qr_B cs cr cw kn i m) ∧ (∃ j, qr_B cs cr cw kn m j)
theorem wy_da9 {post : Int32 → Prop} (hC : C < 512) (hcs : ∀ i, kn i = true → cs i < 2 ^ 31) (hkn : ∀ i, kn i = true → 1 ≤ i ∧ i ≤ C + 1) (h1 : (∃ m, qr_D cs cr cw kn (C + 1) m) → post 1) (h0 : ¬ (∃ m, qr_D cs cr cw kn (C + 1) m) → post 0) : ∀ d i, i + d = C + 2 → (∀ q, q < i → ¬ qr_D cs cr cw kn (C + 1) q) → wY_dangerous_9 post (nI (C + 1)) g (nI C) (nI D) (nI H) (qn_F hc) (qn_F hk) hv (qb_F ht) (qn_F cs) cr cw (qb_F kn) (qb_F op) (qb_F se) (qn_F st) ry (qn_F yc) (qn_F ys) (qn_F wk) yv (qb_F yt) (qn_F sv) (d + 1) (nI i) := by
  intro d
  induction d with
  | zero =>
    intro i hi hn
    rw [wY_dangerous_9]
    refine pk_lt (C + 1) i (fun _ => h0 (fun ⟨m, hm⟩ => ?_)) (fun h => absurd h (by omega))
    obtain ⟨i', hi'⟩ := hm.2.1
    exact hn m (by have := (hkn m hi'.2.2.1).2; omega) hm
  | succ d ih =>
    intro i hi hn
    have up : ¬ qr_D cs cr cw kn (C + 1) i → (∀ q, q < i + 1 → ¬ qr_D cs cr cw kn (C + 1) q) := fun z q hq => by
      by_cases c : q = i
      · subst c; exact z
      · exact hn q (by omega)
    have go : (i = C + 1 ∨ qr_B cs cr cw kn i (C + 1) ∨ qr_B cs cr cw kn (C + 1) i) → wY_dangerous_37 post (wY_dangerous_9 post (nI (C + 1)) g (nI C) (nI D) (nI H) (qn_F hc) (qn_F hk) hv (qb_F ht) (qn_F cs) cr cw (qb_F kn) (qb_F op) (qb_F se) (qn_F st) ry (qn_F yc) (qn_F ys) (qn_F wk) yv (qb_F yt) (qn_F sv) (d + 1)) (nI (C + 1)) (nI i) g (nI C) (nI D) (nI H) (qn_F hc) (qn_F hk) hv (qb_F ht) (qn_F cs) cr cw (qb_F kn) (qb_F op) (qb_F se) (qn_F st) ry (qn_F yc) (qn_F ys) (qn_F wk) yv (qb_F yt) (qn_F sv) := fun z =>
      wy_da37 hC (by omega) hcs hkn (fun a b => h1 ⟨i, z, a, b⟩) (fun a => ih (i + 1) (by omega) (up (fun c => a c.2)))
    rw [wY_dangerous_9]
    simp only [nI_1]
    refine pk_lt (C + 1) i (fun h => absurd h (by omega)) (fun _ => pk_eq i (C + 1) (fun e => go (Or.inl e)) (fun e => ?_))
    refine wy_ar (by omega) (by omega) hcs (fun a => br_f (by decide) (go (Or.inr (Or.inl a)))) (fun a => br_t rfl ?_)
    refine wy_ar (by omega) (by omega) hcs (fun b => br_f (by decide) (go (Or.inr (Or.inr b)))) (fun b => br_t rfl ?_)
    exact nm_e (ih (i + 1) (by omega) (up (fun c => Or.elim c.1 e (fun x => Or.elim x a b))))
theorem wy_da {post : Int32 → Prop} (hC : C < 512) (hcs : ∀ i, kn i = true → cs i < 2 ^ 31) (hkn : ∀ i, kn i = true → 1 ≤ i ∧ i ≤ C + 1) (h1 : (∃ m, qr_D cs cr cw kn (C + 1) m) → post 1) (h0 : ¬ (∃ m, qr_D cs cr cw kn (C + 1) m) → post 0) : wpY_dangerous post (g, nI C, nI D, nI H, qn_F hc, qn_F hk, hv, qb_F ht, qn_F cs, cr, cw, qb_F kn, qb_F op, qb_F se, qn_F st, ry, qn_F yc, qn_F ys, qn_F wk, yv, qb_F yt, qn_F sv) := by
  unfold wpY_dangerous
  simp only [nI_1]
  refine nm_e ⟨C + 2, wy_da9 hC hcs hkn h1 h0 (C + 1) 1 (by omega) (fun q hq z => ?_)⟩
  obtain ⟨i', hi'⟩ := z.2.1
  have := (hkn q hi'.2.2.1).1
  omega
theorem wy_tr18 {post : Int32 → Prop} {J : Int32 → Int32 → Prop} {b : Int32} {n j : Nat} (hj : j < 520) (h2 : ∀ s, s < 4 → op s = true → st s < 2 ^ 31) (h : J (nI (n + (if (kn j && qt_K op se st b j) = true then 1 else 0))) (nI (j + 1))) : ∀ d o, o + d = 4 → wY_tracked_18 post J b (nI n) (nI j) g (nI C) (nI D) (nI H) (qn_F hc) (qn_F hk) hv (qb_F ht) (qn_F cs) cr cw (qb_F kn) (qb_F op) (qb_F se) (qn_F st) ry (qn_F yc) (qn_F ys) (qn_F wk) yv (qb_F yt) (qn_F sv) (d + 1) (qb_i (qe_x (fun o => decide (¬ nI o = b) && (op o && (se o && decide (st o < j)))) o)) (nI o) := by
  intro d
  induction d with
  | zero =>
    intro o ho
    have ho4 : o = 4 := by omega
    subst ho4
    rw [wY_tracked_18]
    simp only [nI_clamp (show j < 2 ^ 31 by omega), qb_at, nI_1]
    rw [qt_K] at h
    refine pk_le 4 4 (fun _ => ⟨vp_in_nI hj (by omega), qb_br (fun e => nm_e ?_) (fun e => qb_br (fun e2 => nm_e ?_) (fun e2 => nm_e (nm_e ?_)))⟩) (fun h => absurd h (by omega))
    · rw [if_neg (by rw [e]; simp)] at h
      exact h
    · rw [if_neg (by rw [e2]; simp)] at h
      exact h
    · rw [if_pos (by rw [e, e2]; rfl)] at h
      exact h
  | succ d ih =>
    intro o ho
    have hn := ih (o + 1) (by omega)
    rw [qe_x] at hn
    rw [wY_tracked_18]
    simp only [nI_clamp (show o < 2 ^ 31 by omega), qb_at, qn_at, nI_1]
    refine pk_le 4 o (fun h => absurd h (by omega)) (fun _ => br_c (fun e => nm_e ?_) (fun e => ⟨vp_in_nI (by omega) (by omega), qb_br (fun e1 => nm_e ?_) (fun e1 => ⟨vp_in_nI (by omega) (by omega), qb_br (fun e2 => nm_e ?_) (fun e2 => ⟨vp_in_nI (by omega) (by omega), ?_⟩)⟩)⟩))
    · rw [decide_eq_false (fun z => z e), Bool.false_and, Bool.or_false] at hn
      exact hn
    · rw [e1, Bool.false_and, Bool.and_false, Bool.or_false] at hn
      exact hn
    · rw [e2, Bool.false_and, Bool.and_false, Bool.and_false, Bool.or_false] at hn
      exact hn
    · have c1 := h2 o (by omega) e1
      refine pk_le j (st o) (fun e3 => nm_e ?_) (fun e3 => nm_e ?_)
      · rw [decide_eq_false (show ¬ st o < j by omega), Bool.and_false, Bool.and_false, Bool.and_false, Bool.or_false] at hn
        exact hn
      · rw [decide_eq_true (show ¬ nI o = b from e), e1, e2, decide_eq_true e3, Bool.and_self, Bool.and_self, Bool.and_self, Bool.or_true] at hn
        exact hn
theorem wy_tr4 {post : Int32 → Prop} {b : Int32} (hC : C < 512) (h2 : ∀ s, s < 4 → op s = true → st s < 2 ^ 31) (h : post (nI (qc_c (fun j => kn j && qt_K op se st b j) (C + 1)))) : ∀ d j, 1 ≤ j → j + d = C + 1 → wY_tracked_4 post b g (nI C) (nI D) (nI H) (qn_F hc) (qn_F hk) hv (qb_F ht) (qn_F cs) cr cw (qb_F kn) (qb_F op) (qb_F se) (qn_F st) ry (qn_F yc) (qn_F ys) (qn_F wk) yv (qb_F yt) (qn_F sv) (d + 1) (nI (qc_c (fun j => kn j && qt_K op se st b j) j)) (nI j) := by
  intro d
  induction d with
  | zero =>
    intro j h1 hj
    rw [wY_tracked_4]
    refine pk_lt C j (fun _ => ?_) (fun h => absurd h (by omega))
    have : j = C + 1 := by omega
    rw [this]
    exact h
  | succ d ih =>
    intro j h1 hj
    rw [wY_tracked_4]
    refine pk_lt C j (fun h => absurd h (by omega)) (fun _ => ⟨5, ?_⟩)
    have hn := ih (j + 1) (by omega) (by omega)
    rw [qc_c] at hn
    exact wy_tr18 (by omega) h2 hn 4 0 (by omega)
theorem wy_tr {post : Int32 → Prop} {b : Int32} (hC : C < 512) (h2 : ∀ s, s < 4 → op s = true → st s < 2 ^ 31) (hk0 : kn 0 = false) (h : post (nI (qc_c (fun j => kn j && qt_K op se st b j) (C + 1)))) : wpY_tracked post (g, nI C, nI D, nI H, qn_F hc, qn_F hk, hv, qb_F ht, qn_F cs, cr, cw, qb_F kn, qb_F op, qb_F se, qn_F st, ry, qn_F yc, qn_F ys, qn_F wk, yv, qb_F yt, qn_F sv) b := by
  unfold wpY_tracked
  have hl := wy_tr4 (g := g) (D := D) (H := H) (hc := hc) (hk := hk) (hv := hv) (ht := ht) (cs := cs) (cr := cr) (cw := cw) (ry := ry) (yc := yc) (ys := ys) (wk := wk) (yv := yv) (yt := yt) (sv := sv) hC h2 h C 1 (by omega) (by omega)
  rw [qc_c, qc_c, hk0, Bool.false_and] at hl
  exact ⟨C + 1, hl⟩
theorem wy_co125 {post : Int32 → SY → Prop} {s n : Nat} (hs : s < 4) (hw : yc s ≤ 12) (hH : H + yc s ≤ 520) (h : (nI n - nI D < g → post 0 (g, nI n, nI D, nI (H + yc s), qn_F (qk_c hc (fun _ => n) H (yc s)), qn_F (qk_c hk (fun q => wk (12 * s + q)) H (yc s)), qk_c hv (fun q => yv (12 * s + q)) H (yc s), qb_F (qk_c ht (fun q => yt (12 * s + q)) H (yc s)), qn_F cs, cr, cw, qb_F kn, qb_F op, qb_F se, qn_F st, ry, qn_F yc, qn_F ys, qn_F wk, yv, qb_F yt, qn_F sv)) ∧ (¬ nI n - nI D < g → post 0 (g, nI n, nI n, nI (H + yc s), qn_F (qk_c hc (fun _ => n) H (yc s)), qn_F (qk_c hk (fun q => wk (12 * s + q)) H (yc s)), qk_c hv (fun q => yv (12 * s + q)) H (yc s), qb_F (qk_c ht (fun q => yt (12 * s + q)) H (yc s)), qn_F cs, cr, cw, qb_F kn, qb_F op, qb_F se, qn_F st, ry, qn_F yc, qn_F ys, qn_F wk, yv, qb_F yt, qn_F sv))) : ∀ d i, i + d = yc s → wY_commit_125 post (nI s) (nI n) g (nI C) (nI D) (d + 1) (nI (12 * s + i)) (nI (H + i)) (qn_F (qk_c hc (fun _ => n) H i)) (qn_F (qk_c hk (fun q => wk (12 * s + q)) H i)) (qk_c hv (fun q => yv (12 * s + q)) H i) (qb_F (qk_c ht (fun q => yt (12 * s + q)) H i)) (qn_F cs) cr cw (qb_F kn) (qb_F op) (qb_F se) (qn_F st) ry (qn_F yc) (qn_F ys) (qn_F wk) yv (qb_F yt) (qn_F sv) := by
  intro d
  induction d with
  | zero =>
    intro i hi
    rw [wY_commit_125]
    simp only [nI_clamp (show s < 2 ^ 31 by omega), qn_at, qi_12]
    refine ⟨vp_in_nI hs (by omega), pk_le (12 * s + yc s) (12 * s + i) (fun _ => ?_) (fun h => absurd h (by omega))⟩
    have : i = yc s := by omega
    rw [this]
    exact h
  | succ d ih =>
    intro i hi
    have hn := ih (i + 1) (by omega)
    have e1 : qu_p (qk_c hc (fun _ => n) H i) (H + i) n = qk_c hc (fun _ => n) H (i + 1) := qk_s (d := hc) (src := fun _ => n)
    have e2 : qu_p (qk_c hk (fun q => wk (12 * s + q)) H i) (H + i) (wk (12 * s + i)) = qk_c hk (fun q => wk (12 * s + q)) H (i + 1) := qk_s (d := hk) (src := fun q => wk (12 * s + q))
    have e3 : upd (qk_c hv (fun q => yv (12 * s + q)) H i) (H + i) (yv (12 * s + i)) = qk_c hv (fun q => yv (12 * s + q)) H (i + 1) := qk_s (d := hv) (src := fun q => yv (12 * s + q))
    have e4 : qu_p (qk_c ht (fun q => yt (12 * s + q)) H i) (H + i) (yt (12 * s + i)) = qk_c ht (fun q => yt (12 * s + q)) H (i + 1) := qk_s (d := ht) (src := fun q => yt (12 * s + q))
    have hi5 : vp_in (nI (12 * s + i)) 48 := vp_in_nI (by omega) (by omega)
    have hh5 : vp_in (nI (H + i)) 520 := vp_in_nI (by omega) (by omega)
    rw [wY_commit_125]
    simp only [nI_clamp (show s < 2 ^ 31 by omega), qn_at, qb_at, qi_12, nI_clamp (show 12 * s + i < 2 ^ 31 by omega), nI_clamp (show H + i < 2 ^ 31 by omega), nI_1, qb_nar, qb_U, qn_U, e1, e2, e3, e4]
    exact ⟨vp_in_nI hs (by omega), pk_le (12 * s + yc s) (12 * s + i) (fun h => absurd h (by omega)) (fun _ => ⟨hh5, nm_e ⟨hi5, hh5, nm_e ⟨hi5, hh5, nm_e ⟨hi5, hh5, nm_e (nm_e (nm_e hn))⟩⟩⟩⟩)⟩
theorem wy_cr55 {post : Int32 → SY → Prop} (hH : H ≤ 520) (hD : D < 2 ^ 31) (hh : ∀ i, i < H → hc i < 2 ^ 31) (h : post (nI C) (g, nI C, nI D, nI (qc_c (fun i => decide (hc i ≤ D)) H), qn_F hc, qn_F hk, hv, qb_F ht, qn_F cs, cr, cw, qb_F kn, qb_F op, qb_F se, qn_F st, ry, qn_F yc, qn_F ys, qn_F wk, yv, qb_F yt, qn_F sv)) : ∀ d i, i + d = H → wY_crash_55 post g (nI C) (nI D) (nI H) (qn_F hc) (qn_F hk) hv (qb_F ht) (qn_F cs) cr cw (qb_F kn) (qb_F op) (qb_F se) (qn_F st) ry (qn_F yc) (qn_F ys) (qn_F wk) yv (qb_F yt) (qn_F sv) (d + 1) (nI (qc_c (fun i => decide (hc i ≤ D)) i)) (nI i) := by
  intro d
  induction d with
  | zero =>
    intro i hi
    rw [wY_crash_55]
    refine pk_le H i (fun _ => ?_) (fun h => absurd h (by omega))
    have : i = H := by omega
    rw [this]
    exact h
  | succ d ih =>
    intro i hi
    have hn := ih (i + 1) (by omega)
    have c1 := hh i (by omega)
    rw [qc_c] at hn
    rw [wY_crash_55]
    simp only [nI_clamp (show i < 2 ^ 31 by omega), qn_at, nI_1]
    refine pk_le H i (fun h => absurd h (by omega)) (fun _ => ⟨vp_in_nI (by omega) (by omega), pk_lt D (hc i) (fun e => nm_e ?_) (fun e => nm_e (nm_e ?_))⟩)
    · rw [if_neg (by rw [decide_eq_false (by omega)]; decide), Nat.add_zero] at hn
      exact hn
    · rw [if_pos (decide_eq_true e)] at hn
      exact hn
theorem wy_cr22 {post : Int32 → SY → Prop} (hC : C < 512) (hH : H ≤ 520) (hD : D < 2 ^ 31) (hh : ∀ i, i < H → hc i < 2 ^ 31) (h : post (nI D) (g, nI D, nI D, nI (qc_c (fun i => decide (hc i ≤ D)) H), qn_F hc, qn_F hk, hv, qb_F ht, qn_F cs, cr, cw, qb_F (qk_c kn (fun _ => false) 1 C), qb_F op, qb_F se, qn_F st, ry, qn_F yc, qn_F ys, qn_F wk, yv, qb_F yt, qn_F sv)) : ∀ d i, i + d = C → wY_crash_22 post g (nI C) (nI D) (nI H) (d + 1) (nI (1 + i)) (qn_F hc) (qn_F hk) hv (qb_F ht) (qn_F cs) cr cw (qb_F (qk_c kn (fun _ => false) 1 i)) (qb_F op) (qb_F se) (qn_F st) ry (qn_F yc) (qn_F ys) (qn_F wk) yv (qb_F yt) (qn_F sv) := by
  intro d
  induction d with
  | zero =>
    intro i hi
    have : i = C := by omega
    subst this
    rw [wY_crash_22]
    exact pk_lt i (1 + i) (fun _ => ⟨H + 1, wy_cr55 hH hD hh h H 0 (by omega)⟩) (fun h => absurd h (by omega))
  | succ d ih =>
    intro i hi
    have e : qu_p (qk_c kn (fun _ => false) 1 i) (1 + i) false = qk_c kn (fun _ => false) 1 (i + 1) := qk_s (d := kn) (src := fun _ => false)
    rw [wY_crash_22]
    simp only [nI_clamp (show 1 + i < 2 ^ 31 by omega), nI_1, qb_nar0, qb_U, e]
    exact pk_lt C (1 + i) (fun h => absurd h (by omega)) (fun _ => ⟨vp_in_nI (by omega) (by omega), nm_e (nm_e (ih (i + 1) (by omega)))⟩)
theorem wy_cr2 {post : Int32 → SY → Prop} (hC : C < 512) (hH : H ≤ 520) (hD : D < 2 ^ 31) (hh : ∀ i, i < H → hc i < 2 ^ 31) (h : post (nI D) (g, nI D, nI D, nI (qc_c (fun i => decide (hc i ≤ D)) H), qn_F hc, qn_F hk, hv, qb_F ht, qn_F cs, cr, cw, qb_F (qk_c kn (fun _ => false) 1 C), qb_F (qk_c op (fun _ => false) 0 4), qb_F se, qn_F st, ry, qn_F yc, qn_F ys, qn_F wk, yv, qb_F yt, qn_F sv)) : ∀ d i, i + d = 4 → wY_crash_2 post g (nI C) (nI D) (nI H) (d + 1) (nI i) (qn_F hc) (qn_F hk) hv (qb_F ht) (qn_F cs) cr cw (qb_F kn) (qb_F (qk_c op (fun _ => false) 0 i)) (qb_F se) (qn_F st) ry (qn_F yc) (qn_F ys) (qn_F wk) yv (qb_F yt) (qn_F sv) := by
  intro d
  induction d with
  | zero =>
    intro i hi
    have : i = 4 := by omega
    subst this
    have hl := wy_cr22 hC hH hD hh h C 0 (by omega)
    rw [qk_0] at hl
    rw [wY_crash_2]
    exact pk_le 4 4 (fun _ => ⟨C + 1, hl⟩) (fun h => absurd h (by omega))
  | succ d ih =>
    intro i hi
    have e : qu_p (qk_c op (fun _ => false) 0 i) i false = qk_c op (fun _ => false) 0 (i + 1) := qk_s0 (d := op) (src := fun _ => false)
    rw [wY_crash_2]
    simp only [nI_clamp (show i < 2 ^ 31 by omega), nI_1, qb_nar0, qb_U, e]
    exact pk_le 4 i (fun h => absurd h (by omega)) (fun _ => ⟨vp_in_nI (by omega) (by omega), nm_e (nm_e (ih (i + 1) (by omega)))⟩)
theorem wy_crash {post : Int32 → SY → Prop} (hC : C < 512) (hH : H ≤ 520) (hD : D < 2 ^ 31) (hh : ∀ i, i < H → hc i < 2 ^ 31) (h : post (nI D) (g, nI D, nI D, nI (qc_c (fun i => decide (hc i ≤ D)) H), qn_F hc, qn_F hk, hv, qb_F ht, qn_F cs, cr, cw, qb_F (qk_c kn (fun _ => false) 1 C), qb_F (qk_c op (fun _ => false) 0 4), qb_F se, qn_F st, ry, qn_F yc, qn_F ys, qn_F wk, yv, qb_F yt, qn_F sv)) : wpY_crash post (g, nI C, nI D, nI H, qn_F hc, qn_F hk, hv, qb_F ht, qn_F cs, cr, cw, qb_F kn, qb_F op, qb_F se, qn_F st, ry, qn_F yc, qn_F ys, qn_F wk, yv, qb_F yt, qn_F sv) := by
  unfold wpY_crash
  have hl := wy_cr2 hC hH hD hh h 4 0 (by omega)
  rw [qk_0] at hl
  exact ⟨5, hl⟩
theorem qp_pos : ∀ n y, 0 < y → y < 2 ^ n → 0 < qp_c n y := fun n y h0 h1 => by
  have := qp_clr n y h0 h1
  omega
theorem qp_dec (x : Int64) (h : 0 < x.toBitVec.toNat) : (x - 1).toBitVec.toNat = x.toBitVec.toNat - 1 := by
  have hlt := x.toBitVec.isLt
  have e : (x - 1).toBitVec = x.toBitVec - 1#64 := rfl
  rw [e, BitVec.toNat_sub, show (1#64).toNat = 1 from rfl]
  generalize x.toBitVec.toNat = y at *
  omega
theorem wy_ct64 {post : Int32 → Prop} : ∀ d (x : Int64) (a : Nat), qp_c 64 x.toBitVec.toNat = d → post (nI (a + d)) → wY_count_64 post g (nI C) (nI D) (nI H) (qn_F hc) (qn_F hk) hv (qb_F ht) (qn_F cs) cr cw (qb_F kn) (qb_F op) (qb_F se) (qn_F st) ry (qn_F yc) (qn_F ys) (qn_F wk) yv (qb_F yt) (qn_F sv) (d + 1) (nI a) x := by
  have hz (x : Int64) : x = 0 ↔ x.toBitVec.toNat = 0 := by
    rw [← Int64.toBitVec_inj]
    show x.toBitVec = 0#64 ↔ _
    constructor
    · intro h; rw [h]; rfl
    · intro h; exact BitVec.eq_of_toNat_eq h
  intro d
  induction d with
  | zero =>
    intro x a hx h
    have h0 : x.toBitVec.toNat = 0 := by
      rcases Nat.eq_zero_or_pos x.toBitVec.toNat with h | h
      · exact h
      · have := qp_pos 64 _ h x.toBitVec.isLt
        omega
    rw [wY_count_64]
    exact br_t ((hz x).mpr h0) h
  | succ d ih =>
    intro x a hx h
    have h0 : ¬ x.toBitVec.toNat = 0 := fun z => by
      rw [z] at hx
      exact absurd hx (by simp [qp_c])
    have hlt := x.toBitVec.isLt
    have e : (x &&& (x - 1)).toBitVec.toNat = x.toBitVec.toNat &&& (x.toBitVec.toNat - 1) := by
      rw [Int64.toBitVec_and, BitVec.toNat_and, qp_dec x (by omega)]
    have hq := qp_clr 64 x.toBitVec.toNat (by omega) hlt
    rw [wY_count_64]
    simp only [nI_1]
    refine br_f (fun z => h0 ((hz x).mp z)) (nm_e (nm_e (ih _ (a + 1) (by rw [e]; omega) ?_)))
    rw [show a + 1 + d = a + (d + 1) by omega]
    exact h
end
end
section
/-! the relation, in four pieces, and how each lasts -/
def qs_S (wc : Nat → Nat) : Nat := wc 0 + wc 1 + wc 2 + wc 3
theorem qs_u {wc : Nat → Nat} {s v : Nat} (hs : s < 4) : qs_S (qu_p wc s v) + wc s = qs_S wc + v := by
  have h : s = 0 ∨ s = 1 ∨ s = 2 ∨ s = 3 := by omega
  rcases h with rfl | rfl | rfl | rfl <;> simp [qs_S, qu_p] <;> omega
theorem qs_ge {wc : Nat → Nat} {s : Nat} (hs : s < 4) : wc s ≤ qs_S wc := by
  have h : s = 0 ∨ s = 1 ∨ s = 2 ∨ s = 3 := by omega
  rcases h with rfl | rfl | rfl | rfl <;> simp only [qs_S] <;> omega
def rl_B (k C D H : Nat) (wc : Nat → Nat) : Prop := D ≤ C ∧ 5 * C + 1 ≤ k ∧ 5 * (H + qs_S wc) + 1 ≤ k
def rl_s (C : Nat) (op : Nat → Bool) (st wc yc sc ys sv wk : Nat → Nat) (rx ry wr : Nat → Int64) (yt : Nat → Bool) (yv : Nat → Int32) (s : Nat) : Prop :=
  wc s ≤ 12 ∧ (op s = false → wc s = 0 ∧ sc s = 0 ∧ rx s = 0) ∧
  (op s = true → yc s = wc s ∧ ys s = sc s ∧ sc s ≤ 3 ∧ rx s = ry s ∧ st s ≤ C ∧ (∀ i, i < sc s → sv (3 * s + i) ≤ wc s) ∧ (∀ i j, i ≤ j → j < sc s → sv (3 * s + i) ≤ sv (3 * s + j)) ∧ (∀ p, p < wc s → wk (12 * s + p) < 64 ∧ wr (12 * s + p) = qv_v yt yv (12 * s + p)))
def rl_H (C D H : Nat) (hc hk : Nat → Nat) (ht : Nat → Bool) (hv : Nat → Int32) (ro dr : Nat → Int64) (lw : Nat → Nat) (op : Nat → Bool) (st : Nat → Nat) (sn : Nat → Int64) : Prop :=
  (∀ i, i < H → hc i ≤ C ∧ hk i < 64) ∧ (∀ i j, i ≤ j → j < H → hc i ≤ hc j) ∧
  (∀ key, key < 64 → ro key = qa_f hc hk (qv_v ht hv) C key H ∧ dr key = qa_f hc hk (qv_v ht hv) D key H ∧ lw key ≤ C) ∧
  (∀ s, s < 4 → op s = true → ∀ key, key < 64 → sn (64 * s + key) = qa_f hc hk (qv_v ht hv) (st s) key H ∧ (st s < lw key ↔ ∃ i, i < H ∧ st s < hc i ∧ hk i = key))
def rl_P (C : Nat) (op se : Nat → Bool) (st pn : Nat → Nat) (pr pw : Nat → Int64) (pO pI : Nat → Bool) (cs : Nat → Nat) (cr cw : Nat → Int64) (kn : Nat → Bool) : Prop :=
  (∀ j, kn j = true → 1 ≤ j ∧ j ≤ C ∧ cs j < j) ∧
  (∀ i, i < 8 → pn i ≠ 0 → kn (pn i) = true ∧ pr i = cr (pn i) ∧ pw i = cw (pn i) ∧ (pO i = true ↔ ∃ j, qr_B cs cr cw kn (pn i) j) ∧ (pI i = true ↔ ∃ j, qr_B cs cr cw kn j (pn i))) ∧
  (∀ i i', i < 8 → i' < 8 → pn i ≠ 0 → pn i = pn i' → i = i') ∧
  (∀ j s, kn j = true → s < 4 → op s = true → se s = true → st s < j → ∃ i, i < 8 ∧ pn i = j)
section
variable {k C D H : Nat} {ro dr sn rx wr pr pw cr cw ry cr' cw' : Nat → Int64} {lw st wc wk sc sv pn hc hk cs yc ys cs' : Nat → Nat} {op op' se pO pI ht kn yt kn' : Nat → Bool} {hv yv : Nat → Int32}
theorem rl_Hop (h : rl_H C D H hc hk ht hv ro dr lw op st sn) (ho : ∀ o, op' o = true → op o = true) : rl_H C D H hc hk ht hv ro dr lw op' st sn :=
  ⟨h.1, h.2.1, h.2.2.1, fun s hs e => h.2.2.2 s hs (ho s e)⟩
theorem rl_Pop (h : rl_P C op se st pn pr pw pO pI cs cr cw kn) (ho : ∀ o, op' o = true → op o = true) : rl_P C op' se st pn pr pw pO pI cs cr cw kn :=
  ⟨h.1, h.2.1, h.2.2.1, fun j s hj hs e => h.2.2.2 j s hj hs (ho s e)⟩
theorem qu_off {s o : Nat} (h : qu_p op s false o = true) : o ≠ s ∧ op o = true := by
  by_cases e : o = s
  · subst e
    rw [qu_s] at h
    exact absurd h (by decide)
  · rw [qu_n e] at h
    exact ⟨e, h⟩
theorem rl_Hbegin {s : Nat} (hs : s < 4) (h : rl_H C D H hc hk ht hv ro dr lw op st sn) : rl_H C D H hc hk ht hv ro dr lw (qu_p op s true) (qu_p st s C) (qk_c sn ro (64 * s) 64) := by
  refine ⟨h.1, h.2.1, h.2.2.1, fun o ho e key hy => ?_⟩
  by_cases c : o = s
  · subst c
    obtain ⟨h1, _, h3⟩ := h.2.2.1 key hy
    rw [qu_s, qk_in hy]
    refine ⟨h1, ⟨fun z => by omega, fun ⟨i, hi, z, _⟩ => ?_⟩⟩
    have := (h.1 i hi).1
    omega
  · rw [qu_n c] at e
    rw [qu_n c, qk_out (by omega)]
    exact h.2.2.2 o ho e key hy
theorem rl_Hdur (h : rl_H C D H hc hk ht hv ro dr lw op st sn) : rl_H C C H hc hk ht hv ro (qk_c dr ro 0 64) lw op st sn :=
  ⟨h.1, h.2.1, fun key hy => ⟨(h.2.2.1 key hy).1, by rw [qk_in0 hy]; exact (h.2.2.1 key hy).1, (h.2.2.1 key hy).2.2⟩, h.2.2.2⟩
theorem rl_Hcrash (h : rl_H C D H hc hk ht hv ro dr lw op st sn) : rl_H D D (qc_c (fun i => decide (hc i ≤ D)) H) hc hk ht hv (qk_c ro dr 0 64) dr (qk_c lw (fun _ => 0) 0 64) (qk_c op (fun _ => false) 0 4) st sn := by
  have hp := qc_pre (P := fun i => decide (hc i ≤ D)) H (fun i j hij hj hd => decide_eq_true (Nat.le_trans (h.2.1 i j hij hj) (of_decide_eq_true hd)))
  have hL := qc_le (fun i => decide (hc i ≤ D)) H
  generalize qc_c (fun i => decide (hc i ≤ D)) H = L at *
  have hq : ∀ key, qa_f hc hk (qv_v ht hv) D key H = qa_f hc hk (qv_v ht hv) D key L := fun key => by
    have e := qa_ext (hc := hc) (hk := hk) (v := qv_v ht hv) (m := D) (key := key) (n := L) (H - L) (fun i hi hj => by
      have := hp i (by omega)
      rw [decide_eq_true_eq] at this
      omega)
    rw [show L + (H - L) = H by omega] at e
    exact e
  refine ⟨fun i hi => ⟨of_decide_eq_true ((hp i (by omega)).mpr hi), (h.1 i (by omega)).2⟩, fun i j hij hj => h.2.1 i j hij (by omega), fun key hy => ?_, fun s hs e => ?_⟩
  · obtain ⟨_, h2, _⟩ := h.2.2.1 key hy
    rw [qk_in0 hy, qk_in0 hy, ← hq key]
    exact ⟨h2, h2, Nat.zero_le _⟩
  · rw [qk_in0 hs] at e
    exact absurd e (by decide)
theorem rl_Hcommit {s : Nat} (hs : s < 4) (hst : ∀ o, o < 4 → op o = true → st o ≤ C) (hD : D ≤ C) (hp : ∀ p, p < wc s → wk (12 * s + p) < 64 ∧ wr (12 * s + p) = qv_v yt yv (12 * s + p)) (h : rl_H C D H hc hk ht hv ro dr lw op st sn) : rl_H (C + 1) D (H + wc s) (qk_c hc (fun _ => C + 1) H (wc s)) (qk_c hk (fun q => wk (12 * s + q)) H (wc s)) (qk_c ht (fun q => yt (12 * s + q)) H (wc s)) (qk_c hv (fun q => yv (12 * s + q)) H (wc s)) (qr_R wk wr (12 * s) ro (wc s)) dr (qr_N wk (C + 1) (12 * s) lw (wc s)) (qu_p op s false) st sn := by
  generalize gc : qk_c hc (fun _ => C + 1) H (wc s) = hc'
  generalize gk : qk_c hk (fun q => wk (12 * s + q)) H (wc s) = hk'
  generalize gv : qv_v (qk_c ht (fun q => yt (12 * s + q)) H (wc s)) (qk_c hv (fun q => yv (12 * s + q)) H (wc s)) = v'
  have o1 : ∀ i, i < H → hc' i = hc i ∧ hk' i = hk i ∧ v' i = qv_v ht hv i := fun i hi => by
    subst gc gk gv
    refine ⟨qk_out (Or.inl hi), qk_out (Or.inl hi), ?_⟩
    rw [qv_v, qv_v, qk_out (Or.inl hi), qk_out (Or.inl hi)]
  have n1 : ∀ p, p < wc s → hc' (H + p) = C + 1 ∧ hk' (H + p) = wk (12 * s + p) ∧ v' (H + p) = qv_v yt yv (12 * s + p) := fun p hpp => by
    subst gc gk gv
    refine ⟨qk_in hpp, qk_in hpp, ?_⟩
    rw [qv_v, qv_v, qk_in hpp, qk_in hpp]
  have n1' : ∀ i, H ≤ i → i < H + wc s → hc' i = C + 1 ∧ hk' i = wk (12 * s + (i - H)) := fun i h1 h2 => by
    obtain ⟨a, b, _⟩ := n1 (i - H) (by omega)
    rw [show H + (i - H) = i by omega] at a b
    exact ⟨a, b⟩
  have lo : ∀ m key, m ≤ C → qa_f hc' hk' v' m key (H + wc s) = qa_f hc hk (qv_v ht hv) m key H := fun m key hm => by
    rw [qa_ext (wc s) (fun i h1 h2 => by rw [(n1' i h1 h2).1]; omega), qa_c H o1]
  have hi : ∀ key p, p ≤ wc s → qa_f hc' hk' v' (C + 1) key (H + p) = ql_l wk (qv_v yt yv) (12 * s) key (qa_f hc hk (qv_v ht hv) C key H) p := fun key p => by
    induction p with
    | zero =>
      intro _
      show qa_f hc' hk' v' (C + 1) key H = qa_f hc hk (qv_v ht hv) C key H
      rw [qa_c H o1]
      exact qa_m H (fun i hi => by have := (h.1 i hi).1; omega)
    | succ p ih =>
      intro hpp
      obtain ⟨a, b, c⟩ := n1 p (by omega)
      rw [← Nat.add_assoc, qa_f, ql_l, ih (by omega), a, b, c]
      simp only [Nat.le_refl, true_and]
  refine ⟨fun i hi => ?_, fun i j hij hj => ?_, fun key hy => ?_, fun o ho e key hy => ?_⟩
  · rcases Nat.lt_or_ge i H with c | c
    · rw [(o1 i c).1, (o1 i c).2.1]
      exact ⟨by have := (h.1 i c).1; omega, (h.1 i c).2⟩
    · rw [(n1' i c hi).1, (n1' i c hi).2]
      exact ⟨by omega, (hp (i - H) (by omega)).1⟩
  · rcases Nat.lt_or_ge j H with c | c
    · rw [(o1 j c).1, (o1 i (by omega)).1]
      exact h.2.1 i j hij c
    · rw [(n1' j c hj).1]
      rcases Nat.lt_or_ge i H with c2 | c2
      · rw [(o1 i c2).1]
        have := (h.1 i c2).1
        omega
      · rw [(n1' i c2 (by omega)).1]
        omega
  · obtain ⟨h1, h2, h3⟩ := h.2.2.1 key hy
    refine ⟨?_, ?_, ?_⟩
    · rw [gv, hi key (wc s) (Nat.le_refl _), qr_Rl, h1]
      exact ql_c (wc s) (fun p hpp => (hp p hpp).2)
    · rw [gv, lo D key hD]
      exact h2
    · rw [qr_Nl]
      split <;> omega
  · obtain ⟨e1, e2⟩ := qu_off e
    obtain ⟨h1, h2⟩ := h.2.2.2 o ho e2 key hy
    have hle := hst o ho e2
    refine ⟨?_, ?_⟩
    · rw [gv, lo (st o) key hle]
      exact h1
    · rw [qr_Nl]
      by_cases c : qw_W wk (12 * s) key (wc s) = true
      · rw [if_pos c]
        obtain ⟨p, hpp, ep⟩ := (qw_iff _).mp c
        obtain ⟨a, b, _⟩ := n1 p hpp
        exact ⟨fun _ => ⟨H + p, by omega, by omega, by rw [b]; exact ep⟩, fun _ => by omega⟩
      · rw [if_neg c, h2]
        constructor
        · rintro ⟨i, hi, a, b⟩
          exact ⟨i, by omega, by rw [(o1 i hi).1]; exact a, by rw [(o1 i hi).2.1]; exact b⟩
        · rintro ⟨i, hi, a, b⟩
          rcases Nat.lt_or_ge i H with d | d
          · rw [(o1 i d).1] at a
            rw [(o1 i d).2.1] at b
            exact ⟨i, d, a, b⟩
          · rw [(n1' i d hi).2] at b
            exact absurd ((qw_iff _).mpr ⟨i - H, by omega, b⟩) c
theorem rl_Pbegin {s : Nat} {b : Bool} (h : rl_P C op se st pn pr pw pO pI cs cr cw kn) : rl_P C (qu_p op s true) (qu_p se s b) (qu_p st s C) pn pr pw pO pI cs cr cw kn := by
  refine ⟨h.1, h.2.1, h.2.2.1, fun j o hj ho e1 e2 e3 => ?_⟩
  by_cases c : o = s
  · subst c
    rw [qu_s] at e3
    have := (h.1 j hj).2.1
    omega
  · rw [qu_n c] at e1 e2 e3
    exact h.2.2.2 j o hj ho e1 e2 e3
theorem rl_Pkeep {C' : Nat} (hC : C ≤ C') (hkn : ∀ j, kn' j = kn j) (hcs : ∀ j, j ≤ C → cs' j = cs j ∧ cr' j = cr j ∧ cw' j = cw j) (h : rl_P C op se st pn pr pw pO pI cs cr cw kn) : rl_P C' op se st pn pr pw pO pI cs' cr' cw' kn' := by
  have hk : kn' = kn := funext hkn
  subst hk
  have ha : ∀ i j, qr_B cs' cr' cw' kn' i j ↔ qr_B cs cr cw kn' i j := fun i j => by
    constructor
    · rintro ⟨a, b, c, d, e, f⟩
      obtain ⟨p1, p2, p3⟩ := hcs i (h.1 i b).2.1
      obtain ⟨q1, q2, q3⟩ := hcs j (h.1 j c).2.1
      exact ⟨a, b, c, by rw [← p1]; exact d, by rw [← q1]; exact e, by rw [← p2, ← q3]; exact f⟩
    · rintro ⟨a, b, c, d, e, f⟩
      obtain ⟨p1, p2, p3⟩ := hcs i (h.1 i b).2.1
      obtain ⟨q1, q2, q3⟩ := hcs j (h.1 j c).2.1
      exact ⟨a, b, c, by rw [p1]; exact d, by rw [q1]; exact e, by rw [p2, q3]; exact f⟩
  refine ⟨fun j hj => ?_, fun i hi hn => ?_, h.2.2.1, h.2.2.2⟩
  · obtain ⟨a, b, c⟩ := h.1 j hj
    exact ⟨a, by omega, by rw [(hcs j b).1]; exact c⟩
  · obtain ⟨a, b, c, d, e⟩ := h.2.1 i hi hn
    obtain ⟨p1, p2, p3⟩ := hcs (pn i) (h.1 _ a).2.1
    refine ⟨a, by rw [p2]; exact b, by rw [p3]; exact c, ?_, ?_⟩
    · simp only [ha]
      exact d
    · simp only [ha]
      exact e
theorem rl_Pcrash (h : rl_P C op se st pn pr pw pO pI cs cr cw kn) : rl_P D (qk_c op (fun _ => false) 0 4) se st (qk_c pn (fun _ => 0) 0 8) pr pw pO pI cs cr cw (qk_c kn (fun _ => false) 1 C) := by
  have hn : ∀ j, ¬ qk_c kn (fun _ => false) 1 C j = true := fun j hj => by
    by_cases c : 1 ≤ j ∧ j < 1 + C
    · rw [qk_c, if_pos c] at hj
      exact absurd hj (by decide)
    · rw [qk_c, if_neg c] at hj
      have := h.1 j hj
      omega
  refine ⟨fun j hj => absurd hj (hn j), fun i hi h0 => ?_, fun i i' hi hi' h0 => ?_, fun j s hj => absurd hj (hn j)⟩
  · rw [qk_in0 hi] at h0
    exact absurd rfl h0
  · rw [qk_in0 hi] at h0
    exact absurd rfl h0
end
end
section
section
variable {k C D H : Nat} {ro dr sn rx wr pr pw cr cw ry : Nat → Int64} {lw st wc wk sc sv pn hc hk cs yc ys : Nat → Nat} {op se pO pI ht kn yt : Nat → Bool} {hv yv : Nat → Int32}
/-- the arrows once number C + 1 stands beside the past: among the past as before; to and from it, as the component looks -/
theorem rl_ar {s : Nat} {w : Int64} (h : ∀ j, kn j = true → 1 ≤ j ∧ j ≤ C ∧ cs j < j) : (∀ i j, i ≠ C + 1 → j ≠ C + 1 → (qr_B (qu_p cs (C + 1) (st s)) (qu_p cr (C + 1) (rx s)) (qu_p cw (C + 1) w) (qu_p kn (C + 1) true) i j ↔ qr_B cs cr cw kn i j)) ∧ (∀ j, qr_B (qu_p cs (C + 1) (st s)) (qu_p cr (C + 1) (rx s)) (qu_p cw (C + 1) w) (qu_p kn (C + 1) true) (C + 1) j ↔ kn j = true ∧ st s < j ∧ ¬ (rx s &&& cw j) = 0) ∧ (∀ j, qr_B (qu_p cs (C + 1) (st s)) (qu_p cr (C + 1) (rx s)) (qu_p cw (C + 1) w) (qu_p kn (C + 1) true) j (C + 1) ↔ kn j = true ∧ st s < j ∧ ¬ (cr j &&& w) = 0) := by
  have hn : kn (C + 1) = true → False := fun z => by have := h _ z; omega
  refine ⟨fun i j hi hj => ?_, fun j => ?_, fun j => ?_⟩
  · rw [qr_B, qr_B, qu_n hi, qu_n hi, qu_n hi, qu_n hj, qu_n hj, qu_n hj]
  · constructor
    · rintro ⟨a, b, c, d, e, f⟩
      have hj : j ≠ C + 1 := Ne.symm a
      rw [qu_n hj] at c
      rw [qu_s] at d
      rw [qu_s, qu_n hj] at f
      exact ⟨c, d, f⟩
    · rintro ⟨c, d, f⟩
      have hj : j ≠ C + 1 := fun z => hn (z ▸ c)
      refine ⟨Ne.symm hj, qu_s, by rw [qu_n hj]; exact c, by rw [qu_s]; exact d, ?_, by rw [qu_s, qu_n hj]; exact f⟩
      rw [qu_n hj]
      have := h j c
      omega
  · constructor
    · rintro ⟨a, b, c, d, e, f⟩
      rw [qu_n a] at b
      rw [qu_s] at e
      rw [qu_s, qu_n a] at f
      exact ⟨b, e, f⟩
    · rintro ⟨c, d, f⟩
      have hj : j ≠ C + 1 := fun z => hn (z ▸ c)
      refine ⟨hj, by rw [qu_n hj]; exact c, qu_s, ?_, by rw [qu_s]; exact d, by rw [qu_s, qu_n hj]; exact f⟩
      rw [qu_n hj]
      have := h j c
      omega
/-- what the slots show of the arrows to and from the one that commits -/
theorem rl_sl {s : Nat} {w : Int64} (hs : s < 4) (ho : op s = true) (hse : se s = true) (h : rl_P C op se st pn pr pw pO pI cs cr cw kn) : (∀ i, i < 8 → (qt_T st pn rx pw s i = true ↔ pn i ≠ 0 ∧ st s < pn i ∧ ¬ (rx s &&& cw (pn i)) = 0)) ∧ (∀ i, i < 8 → (qt_R st pn pr w s i = true ↔ pn i ≠ 0 ∧ st s < pn i ∧ ¬ (cr (pn i) &&& w) = 0)) ∧ (∀ j, kn j = true → st s < j → ∃ i, i < 8 ∧ pn i = j ∧ pn i ≠ 0) := by
  refine ⟨fun i hi => ?_, fun i hi => ?_, fun j hj hlt => ?_⟩
  · rw [qt_Ti]
    constructor
    · rintro ⟨a, b⟩
      have h0 : pn i ≠ 0 := by omega
      rw [(h.2.1 i hi h0).2.2.1] at b
      exact ⟨h0, a, b⟩
    · rintro ⟨h0, a, b⟩
      rw [(h.2.1 i hi h0).2.2.1]
      exact ⟨a, b⟩
  · rw [qt_Ri]
    constructor
    · rintro ⟨a, b⟩
      have h0 : pn i ≠ 0 := by omega
      rw [(h.2.1 i hi h0).2.1] at b
      exact ⟨h0, a, b⟩
    · rintro ⟨h0, a, b⟩
      rw [(h.2.1 i hi h0).2.1]
      exact ⟨a, b⟩
  · obtain ⟨i, hi, e⟩ := h.2.2.2 j s hj hs ho hse hlt
    exact ⟨i, hi, e, by have := (h.1 j hj).1; omega⟩
theorem rl_dang {s : Nat} {w : Int64} (hs : s < 4) (ho : op s = true) (hse : se s = true) (h : rl_P C op se st pn pr pw pO pI cs cr cw kn) : (∃ m, qr_D (qu_p cs (C + 1) (st s)) (qu_p cr (C + 1) (rx s)) (qu_p cw (C + 1) w) (qu_p kn (C + 1) true) (C + 1) m) ↔ (∃ i, i < 8 ∧ qt_T st pn rx pw s i = true ∧ pO i = true) ∨ (∃ i, i < 8 ∧ qt_R st pn pr w s i = true ∧ pI i = true) ∨ ((∃ i, i < 8 ∧ qt_T st pn rx pw s i = true) ∧ (∃ i, i < 8 ∧ qt_R st pn pr w s i = true)) := by
  obtain ⟨a1, a2, a3⟩ := rl_ar (cr := cr) (cw := cw) (rx := rx) (st := st) (s := s) (w := w) h.1
  obtain ⟨t1, t2, t3⟩ := rl_sl (rx := rx) (w := w) hs ho hse h
  have hT : (∃ j, qr_B (qu_p cs (C + 1) (st s)) (qu_p cr (C + 1) (rx s)) (qu_p cw (C + 1) w) (qu_p kn (C + 1) true) (C + 1) j) → ∃ i, i < 8 ∧ qt_T st pn rx pw s i = true := by
    rintro ⟨j, hj⟩
    obtain ⟨c, d, f⟩ := (a2 j).mp hj
    obtain ⟨i, hi, e, h0⟩ := t3 j c d
    exact ⟨i, hi, (t1 i hi).mpr ⟨h0, by rw [e]; exact d, by rw [e]; exact f⟩⟩
  have hR : (∃ j, qr_B (qu_p cs (C + 1) (st s)) (qu_p cr (C + 1) (rx s)) (qu_p cw (C + 1) w) (qu_p kn (C + 1) true) j (C + 1)) → ∃ i, i < 8 ∧ qt_R st pn pr w s i = true := by
    rintro ⟨j, hj⟩
    obtain ⟨c, d, f⟩ := (a3 j).mp hj
    obtain ⟨i, hi, e, h0⟩ := t3 j c d
    exact ⟨i, hi, (t2 i hi).mpr ⟨h0, by rw [e]; exact d, by rw [e]; exact f⟩⟩
  have hne : ∀ j, kn j = true → j ≠ C + 1 := fun j hj => by have := (h.1 j hj).2.1; omega
  constructor
  · rintro ⟨m, hm, ⟨i, hi⟩, ⟨j, hj⟩⟩
    by_cases c : m = C + 1
    · subst c
      exact Or.inr (Or.inr ⟨hT ⟨j, hj⟩, hR ⟨i, hi⟩⟩)
    · rcases hm with hm | hm | hm
      · exact absurd hm c
      · by_cases ci : i = C + 1
        · subst ci
          exact Or.inr (Or.inr ⟨hT ⟨m, hi⟩, hR ⟨m, hm⟩⟩)
        · obtain ⟨k1, k2, k3⟩ := (a3 m).mp hm
          obtain ⟨q, hq, e, h0⟩ := t3 m k1 k2
          refine Or.inr (Or.inl ⟨q, hq, (t2 q hq).mpr ⟨h0, by rw [e]; exact k2, by rw [e]; exact k3⟩, ?_⟩)
          rw [(h.2.1 q hq h0).2.2.2.2, e]
          exact ⟨i, (a1 i m ci c).mp hi⟩
      · by_cases cj : j = C + 1
        · subst cj
          exact Or.inr (Or.inr ⟨hT ⟨m, hm⟩, hR ⟨m, hj⟩⟩)
        · obtain ⟨k1, k2, k3⟩ := (a2 m).mp hm
          obtain ⟨q, hq, e, h0⟩ := t3 m k1 k2
          refine Or.inl ⟨q, hq, (t1 q hq).mpr ⟨h0, by rw [e]; exact k2, by rw [e]; exact k3⟩, ?_⟩
          rw [(h.2.1 q hq h0).2.2.2.1, e]
          exact ⟨j, (a1 m j c cj).mp hj⟩
  · rintro (⟨i, hi, x, y⟩ | ⟨i, hi, x, y⟩ | ⟨⟨i, hi, x⟩, ⟨j, hj, y⟩⟩)
    · obtain ⟨h0, b, c⟩ := (t1 i hi).mp x
      obtain ⟨g1, g2, g3, g4, g5⟩ := h.2.1 i hi h0
      obtain ⟨j, hj⟩ := g4.mp y
      have e1 := (a2 (pn i)).mpr ⟨g1, b, c⟩
      exact ⟨pn i, Or.inr (Or.inr e1), ⟨C + 1, e1⟩, ⟨j, (a1 _ _ (hne _ g1) (hne _ hj.2.2.1)).mpr hj⟩⟩
    · obtain ⟨h0, b, c⟩ := (t2 i hi).mp x
      obtain ⟨g1, g2, g3, g4, g5⟩ := h.2.1 i hi h0
      obtain ⟨j, hj⟩ := g5.mp y
      have e1 := (a3 (pn i)).mpr ⟨g1, b, c⟩
      exact ⟨pn i, Or.inr (Or.inl e1), ⟨j, (a1 _ _ (hne _ hj.2.1) (hne _ g1)).mpr hj⟩, ⟨C + 1, e1⟩⟩
    · obtain ⟨h0, b, c⟩ := (t1 i hi).mp x
      obtain ⟨h0', b', c'⟩ := (t2 j hj).mp y
      exact ⟨C + 1, Or.inl rfl, ⟨pn j, (a3 _).mpr ⟨(h.2.1 j hj h0').1, b', c'⟩⟩, ⟨pn i, (a2 _).mpr ⟨(h.2.1 i hi h0).1, b, c⟩⟩⟩
theorem rl_trk {b : Int32} (h : rl_P C op se st pn pr pw pO pI cs cr cw kn) : qc_c (fun i => qt_K op se st b (pn i)) 8 = qc_c (fun j => kn j && qt_K op se st b j) (C + 1) := by
  have hk : ∀ i, i < 8 → qt_K op se st b (pn i) = true → pn i ≠ 0 := fun i hi z => by
    obtain ⟨o, _, _, _, _, hlt⟩ := qt_iff.mp z
    omega
  refine qc_bij (f := pn) 8 _ (fun i hi z => ?_) (fun i i' hi hi' z z' e => h.2.2.1 i i' hi hi' (hk i hi z) e) (fun j hj z => ?_)
  · obtain ⟨g1, _⟩ := h.2.1 i hi (hk i hi z)
    have := (h.1 _ g1).2.1
    refine ⟨by omega, ?_⟩
    show (kn (pn i) && qt_K op se st b (pn i)) = true
    rw [g1, z]
    rfl
  · have z' : (kn j && qt_K op se st b j) = true := z
    rw [Bool.and_eq_true] at z'
    obtain ⟨o, ho, _, e1, e2, e3⟩ := qt_iff.mp z'.2
    obtain ⟨i, hi, e⟩ := h.2.2.2 j o z'.1 ho e1 e2 e3
    refine ⟨i, hi, ?_, e⟩
    show qt_K op se st b (pn i) = true
    rw [e]
    exact z'.2
theorem rl_free {b : Int32} (hlt : qc_c (fun i => qt_K op se st b (pn i)) 8 < 8) : ∃ f, f < 8 ∧ qt_K op se st b (pn f) = false := by
  refine Classical.byContradiction fun hn => ?_
  have hall : ∀ m, m ≤ 8 → qc_c (fun i => qt_K op se st b (pn i)) m = m := by
    intro m
    induction m with
    | zero => intro _; rfl
    | succ m ih =>
      intro hm
      rw [qc_c, ih (by omega), if_pos]
      show qt_K op se st b (pn m) = true
      cases hq : qt_K op se st b (pn m)
      · exact absurd ⟨m, by omega, hq⟩ hn
      · rfl
  rw [hall 8 (Nat.le_refl 8)] at hlt
  omega
theorem rl_Pcommit {s f : Nat} {w : Int64} (hs : s < 4) (ho : op s = true) (hse : se s = true) (hf : f < 8) (hfree : qt_K op se st (nI s) (pn f) = false) (hst : st s ≤ C) (h : rl_P C op se st pn pr pw pO pI cs cr cw kn) : rl_P (C + 1) (qu_p op s false) se st (qu_p pn f (C + 1)) (qu_p pr f (rx s)) (qu_p pw f w) (qu_p (qf_m pO (qt_R st pn pr w s) 8) f (qe_x (qt_T st pn rx pw s) 8)) (qu_p (qf_m pI (qt_T st pn rx pw s) 8) f (qe_x (qt_R st pn pr w s) 8)) (qu_p cs (C + 1) (st s)) (qu_p cr (C + 1) (rx s)) (qu_p cw (C + 1) w) (qu_p kn (C + 1) true) := by
  obtain ⟨a1, a2, a3⟩ := rl_ar (cr := cr) (cw := cw) (rx := rx) (st := st) (s := s) (w := w) h.1
  obtain ⟨t1, t2, t3⟩ := rl_sl (rx := rx) (w := w) hs ho hse h
  have hne : ∀ j, kn j = true → j ≠ C + 1 := fun j hj => by have := (h.1 j hj).2.1; omega
  refine ⟨fun j hj => ?_, fun i hi h0 => ?_, fun i i' hi hi' h0 e => ?_, fun j o hj ho4 e1 e2 e3 => ?_⟩
  · by_cases c : j = C + 1
    · subst c
      rw [qu_s]
      omega
    · rw [qu_n c] at hj
      rw [qu_n c]
      have := h.1 j hj
      omega
  · by_cases c : i = f
    · subst c
      rw [qu_s, qu_s, qu_s, qu_s, qu_s, qu_s, qu_s, qu_s]
      refine ⟨rfl, rfl, rfl, ?_, ?_⟩
      · rw [qe_iff]
        constructor
        · rintro ⟨q, hq, x⟩
          obtain ⟨g0, b, c⟩ := (t1 q hq).mp x
          exact ⟨pn q, (a2 _).mpr ⟨(h.2.1 q hq g0).1, b, c⟩⟩
        · rintro ⟨j, hj⟩
          obtain ⟨c, d, f⟩ := (a2 j).mp hj
          obtain ⟨q, hq, e, g0⟩ := t3 j c d
          exact ⟨q, hq, (t1 q hq).mpr ⟨g0, by rw [e]; exact d, by rw [e]; exact f⟩⟩
      · rw [qe_iff]
        constructor
        · rintro ⟨q, hq, x⟩
          obtain ⟨g0, b, c⟩ := (t2 q hq).mp x
          exact ⟨pn q, (a3 _).mpr ⟨(h.2.1 q hq g0).1, b, c⟩⟩
        · rintro ⟨j, hj⟩
          obtain ⟨c, d, f⟩ := (a3 j).mp hj
          obtain ⟨q, hq, e, g0⟩ := t3 j c d
          exact ⟨q, hq, (t2 q hq).mpr ⟨g0, by rw [e]; exact d, by rw [e]; exact f⟩⟩
    · rw [qu_n c] at h0
      obtain ⟨g1, g2, g3, g4, g5⟩ := h.2.1 i hi h0
      have hni := hne _ g1
      rw [qu_n c, qu_n c, qu_n c, qu_n c, qu_n c, qu_n hni, qu_n hni, qu_n hni]
      refine ⟨g1, g2, g3, ?_, ?_⟩
      · show (pO i || (decide (i < 8) && qt_R st pn pr w s i)) = true ↔ _
        rw [decide_eq_true hi, Bool.true_and, Bool.or_eq_true, g4, t2 i hi]
        constructor
        · rintro (⟨j, hj⟩ | ⟨_, b, c⟩)
          · exact ⟨j, (a1 _ _ hni (hne _ hj.2.2.1)).mpr hj⟩
          · exact ⟨C + 1, (a3 _).mpr ⟨g1, b, c⟩⟩
        · rintro ⟨j, hj⟩
          by_cases cj : j = C + 1
          · subst cj
            exact Or.inr ⟨h0, ((a3 _).mp hj).2⟩
          · exact Or.inl ⟨j, (a1 _ _ hni cj).mp hj⟩
      · show (pI i || (decide (i < 8) && qt_T st pn rx pw s i)) = true ↔ _
        rw [decide_eq_true hi, Bool.true_and, Bool.or_eq_true, g5, t1 i hi]
        constructor
        · rintro (⟨j, hj⟩ | ⟨_, b, c⟩)
          · exact ⟨j, (a1 _ _ (hne _ hj.2.1) hni).mpr hj⟩
          · exact ⟨C + 1, (a2 _).mpr ⟨g1, b, c⟩⟩
        · rintro ⟨j, hj⟩
          by_cases cj : j = C + 1
          · subst cj
            exact Or.inr ⟨h0, ((a2 _).mp hj).2⟩
          · exact Or.inl ⟨j, (a1 _ _ cj hni).mp hj⟩
  · have hb : ∀ q, q < 8 → q ≠ f → pn q ≠ C + 1 := fun q hq _ z => by
      have := h.2.1 q hq (by omega)
      exact hne _ this.1 z
    by_cases c : i = f
    · by_cases c' : i' = f
      · omega
      · subst c
        rw [qu_s, qu_n c'] at e
        exact absurd e.symm (hb i' hi' c')
    · by_cases c' : i' = f
      · subst c'
        rw [qu_s, qu_n c] at e
        exact absurd e (hb i hi c)
      · rw [qu_n c] at h0
        rw [qu_n c, qu_n c'] at e
        exact h.2.2.1 i i' hi hi' h0 e
  · obtain ⟨g1, g2⟩ := qu_off e1
    by_cases c : j = C + 1
    · exact ⟨f, hf, by rw [qu_s]; exact c.symm⟩
    · rw [qu_n c] at hj
      obtain ⟨i, hi, e⟩ := h.2.2.2 j o hj ho4 g2 e2 e3
      refine ⟨i, hi, ?_⟩
      rw [qu_n]
      · exact e
      · intro z
        subst z
        have : qt_K op se st (nI s) (pn i) = true := qt_iff.mpr ⟨o, ho4, fun z => g1 ((nI_eq (by omega) (by omega)).mp z), g2, e2, by omega⟩
        rw [this] at hfree
        exact absurd hfree (by decide)
end
end
section
section
variable {k C D H : Nat} {ro dr sn rx wr pr pw cr cw ry : Nat → Int64} {lw st wc wk sc sv pn hc hk cs yc ys : Nat → Nat} {op se pO pI ht kn yt : Nat → Bool} {hv yv : Nat → Int32}
theorem rl_Srd {s : Nat} {r : Int64} (hS : ∀ o, o < 4 → rl_s C op st wc yc sc ys sv wk rx ry wr yt yv o) (ho : op s = true) : ∀ o, o < 4 → rl_s C op st wc yc sc ys sv wk (qu_p rx s r) (qu_p ry s r) wr yt yv o := by
  intro o h4
  obtain ⟨a, b, c⟩ := hS o h4
  by_cases e : o = s
  · subst e
    obtain ⟨c1, c2, c3, c4, c5⟩ := c ho
    refine ⟨a, fun z => ?_, fun _ => ⟨c1, c2, c3, ?_, c5⟩⟩
    · rw [ho] at z
      exact absurd z (by decide)
    · rw [qu_s, qu_s]
  · simp only [rl_s, qu_n e]
    exact ⟨a, b, c⟩
theorem rl_Send {s : Nat} (hS : ∀ o, o < 4 → rl_s C op st wc yc sc ys sv wk rx ry wr yt yv o) : ∀ o, o < 4 → rl_s C (qu_p op s false) st (qu_p wc s 0) yc (qu_p sc s 0) ys sv wk (qu_p rx s 0) ry wr yt yv o := by
  intro o h4
  obtain ⟨a, b, c⟩ := hS o h4
  by_cases e : o = s
  · subst e
    simp only [rl_s, qu_s]
    exact ⟨by omega, fun _ => ⟨by trivial, by trivial, by trivial⟩, fun z => absurd z (by decide)⟩
  · simp only [rl_s, qu_n e]
    exact ⟨a, b, c⟩
theorem rl_SC {C' : Nat} (hC : C ≤ C') (hS : ∀ o, o < 4 → rl_s C op st wc yc sc ys sv wk rx ry wr yt yv o) : ∀ o, o < 4 → rl_s C' op st wc yc sc ys sv wk rx ry wr yt yv o := by
  intro o h4
  obtain ⟨a, b, c⟩ := hS o h4
  refine ⟨a, b, fun z => ?_⟩
  obtain ⟨c1, c2, c3, c4, c5, c6⟩ := c z
  exact ⟨c1, c2, c3, c4, Nat.le_trans c5 hC, c6⟩
theorem rl_Sbegin {s : Nat} (hS : ∀ o, o < 4 → rl_s C op st wc yc sc ys sv wk rx ry wr yt yv o) (ho : op s = false) : ∀ o, o < 4 → rl_s C (qu_p op s true) (qu_p st s C) wc (qu_p yc s 0) sc (qu_p ys s 0) sv wk rx (qu_p ry s 0) wr yt yv o := by
  intro o h4
  obtain ⟨a, b, c⟩ := hS o h4
  by_cases e : o = s
  · subst e
    obtain ⟨b1, b2, b3⟩ := b ho
    simp only [rl_s, qu_s, b1, b2, b3]
    exact ⟨by omega, fun z => absurd z (by decide), fun _ => ⟨by trivial, by trivial, by omega, by trivial, Nat.le_refl _, fun i hi => by omega, fun i j _ hj => by omega, fun p hp => by omega⟩⟩
  · simp only [rl_s, qu_n e]
    exact ⟨a, b, c⟩
theorem rl_Scrash (hS : ∀ o, o < 4 → rl_s C op st wc yc sc ys sv wk rx ry wr yt yv o) : ∀ o, o < 4 → rl_s D (qk_c op (fun _ => false) 0 4) st (qk_c wc (fun _ => 0) 0 4) yc (qk_c sc (fun _ => 0) 0 4) ys sv wk (qk_c rx (fun _ => 0) 0 4) ry wr yt yv o := by
  intro o h4
  simp only [rl_s, qk_in0 h4]
  exact ⟨by omega, fun _ => ⟨trivial, trivial, trivial⟩, fun z => absurd z (by decide)⟩
theorem rl_Swrite {s key : Nat} {x : Int32} {b : Bool} (hs : s < 4) (hS : ∀ o, o < 4 → rl_s C op st wc yc sc ys sv wk rx ry wr yt yv o) (ho : op s = true) (hy : key < 64) (hlt : wc s < 12) : ∀ o, o < 4 → rl_s C op st (qu_p wc s (wc s + 1)) (qu_p yc s (wc s + 1)) sc ys sv (qu_p wk (12 * s + wc s) key) rx ry (qu_p wr (12 * s + wc s) (if b = true then x.toInt64 else 1000000000000)) (qu_p yt (12 * s + wc s) b) (qu_p yv (12 * s + wc s) x) o := by
  intro o h4
  obtain ⟨a, b', c⟩ := hS o h4
  have blk : ∀ q, q ≠ 12 * s + wc s → qu_p wk (12 * s + wc s) key q = wk q ∧ qu_p wr (12 * s + wc s) (if b = true then x.toInt64 else 1000000000000) q = wr q ∧ qv_v (qu_p yt (12 * s + wc s) b) (qu_p yv (12 * s + wc s) x) q = qv_v yt yv q := fun q hq => by
    rw [qv_v, qv_v, qu_n hq, qu_n hq, qu_n hq, qu_n hq]
    exact ⟨rfl, rfl, rfl⟩
  by_cases e : o = s
  · subst e
    obtain ⟨c1, c2, c3, c4, c5, c6, c7, c8⟩ := c ho
    simp only [rl_s, qu_s]
    refine ⟨by omega, fun z => ?_, fun _ => ⟨trivial, c2, c3, c4, c5, fun i hi => ?_, c7, fun p hp => ?_⟩⟩
    · rw [ho] at z
      exact absurd z (by decide)
    · have := c6 i hi
      omega
    · by_cases ep : p = wc o
      · subst ep
        rw [qv_v, qu_s, qu_s, qu_s, qu_s]
        exact ⟨hy, rfl⟩
      · obtain ⟨g1, g2, g3⟩ := blk (12 * o + p) (by omega)
        rw [g1, g2, g3]
        exact c8 p (by omega)
  · simp only [rl_s, qu_n e]
    refine ⟨a, b', fun z => ?_⟩
    obtain ⟨c1, c2, c3, c4, c5, c6, c7, c8⟩ := c z
    refine ⟨c1, c2, c3, c4, c5, c6, c7, fun p hp => ?_⟩
    obtain ⟨g1, g2, g3⟩ := blk (12 * o + p) (by omega)
    rw [g1, g2, g3]
    exact c8 p hp
theorem rl_Ssave {s : Nat} (hs : s < 4) (hS : ∀ o, o < 4 → rl_s C op st wc yc sc ys sv wk rx ry wr yt yv o) (ho : op s = true) (hlt : sc s < 3) : ∀ o, o < 4 → rl_s C op st wc yc (qu_p sc s (sc s + 1)) (qu_p ys s (sc s + 1)) (qu_p sv (3 * s + sc s) (wc s)) wk rx ry wr yt yv o := by
  intro o h4
  obtain ⟨a, b', c⟩ := hS o h4
  by_cases e : o = s
  · subst e
    obtain ⟨c1, c2, c3, c4, c5, c6, c7, c8⟩ := c ho
    simp only [rl_s, qu_s]
    refine ⟨a, fun z => ?_, fun _ => ⟨c1, trivial, by omega, c4, c5, fun i hi => ?_, fun i j hij hj => ?_, c8⟩⟩
    · rw [ho] at z
      exact absurd z (by decide)
    · by_cases ei : i = sc o
      · subst ei
        rw [qu_s]
        exact Nat.le_refl _
      · rw [qu_n (by omega)]
        exact c6 i (by omega)
    · by_cases ej : j = sc o
      · subst ej
        rw [qu_s]
        by_cases ei : i = sc o
        · subst ei
          rw [qu_s]
          exact Nat.le_refl _
        · rw [qu_n (by omega)]
          exact c6 i (by omega)
      · rw [qu_n (by omega), qu_n (by omega)]
        exact c7 i j hij (by omega)
  · simp only [rl_s, qu_n e]
    refine ⟨a, b', fun z => ?_⟩
    obtain ⟨c1, c2, c3, c4, c5, c6, c7, c8⟩ := c z
    refine ⟨c1, c2, c3, c4, c5, fun i hi => ?_, fun i j hij hj => ?_, c8⟩
    · rw [qu_n (by omega)]
      exact c6 i hi
    · rw [qu_n (by omega), qu_n (by omega)]
      exact c7 i j hij hj
theorem rl_Sundo {s q : Nat} (hS : ∀ o, o < 4 → rl_s C op st wc yc sc ys sv wk rx ry wr yt yv o) (ho : op s = true) (hq : sc s = q + 1) : ∀ o, o < 4 → rl_s C op st (qu_p wc s (sv (3 * s + q))) (qu_p yc s (sv (3 * s + q))) (qu_p sc s q) (qu_p ys s q) sv wk rx ry wr yt yv o := by
  intro o h4
  obtain ⟨a, b', c⟩ := hS o h4
  by_cases e : o = s
  · subst e
    obtain ⟨c1, c2, c3, c4, c5, c6, c7, c8⟩ := c ho
    have hle := c6 q (by omega)
    simp only [rl_s, qu_s]
    refine ⟨by omega, fun z => ?_, fun _ => ⟨trivial, trivial, by omega, c4, c5, fun i hi => c7 i q (by omega) (by omega), fun i j hij hj => c7 i j hij (by omega), fun p hp => c8 p (by omega)⟩⟩
    rw [ho] at z
    exact absurd z (by decide)
  · simp only [rl_s, qu_n e]
    exact ⟨a, b', c⟩
theorem rl_facts (hB : rl_B k C D H wc) (hk5 : k + 5 ≤ 2561) (hS : ∀ o, o < 4 → rl_s C op st wc yc sc ys sv wk rx ry wr yt yv o) (hH : rl_H C D H hc hk ht hv ro dr lw op st sn) (hP : rl_P C op se st pn pr pw pO pI cs cr cw kn) : C < 512 ∧ H + qs_S wc < 512 ∧ D ≤ C ∧ (∀ i, i < H → hc i < 2 ^ 31 ∧ hk i < 2 ^ 31) ∧ (∀ o, o < 4 → wc o ≤ 12) ∧ (∀ o, o < 4 → ∀ p, p < wc o → wk (12 * o + p) < 64) ∧ (∀ o, o < 4 → op o = true → st o < 2 ^ 31) ∧ (∀ i, i < 8 → pn i < 2 ^ 31) := by
  obtain ⟨h1, h2, h3⟩ := hB
  have hC : C < 512 := by omega
  refine ⟨hC, by omega, h1, fun i hi => ?_, fun o h4 => (hS o h4).1, fun o h4 p hp => ?_, fun o h4 e => ?_, fun i hi => ?_⟩
  · have := hH.1 i hi
    omega
  · cases e : op o
    · have := ((hS o h4).2.1 e).1
      omega
    · exact (((hS o h4).2.2 e).2.2.2.2.2.2.2 p hp).1
  · have := ((hS o h4).2.2 e).2.2.2.2.1
    omega
  · rcases Nat.eq_zero_or_pos (pn i) with e | e
    · omega
    · have := (hP.1 _ (hP.2.1 i hi (by omega)).1).2.1
      omega
end
section
variable {g : Int32} {k C D H : Nat} {ro dr sn rx wr pr pw cr cw ry : Nat → Int64} {lw st wc wk sc sv pn hc hk cs yc ys : Nat → Nat} {op se pO pI ht kn yt : Nat → Bool} {hv yv : Nat → Int32}
def i_Rel (k : Nat) (u : SX) (v : SY) : Prop := ∃ (g : Int32) (C D H : Nat) (ro dr sn rx wr pr pw cr cw ry : Nat → Int64) (lw st wc wk sc sv pn hc hk cs yc ys : Nat → Nat) (op se pO pI ht kn yt : Nat → Bool) (hv yv : Nat → Int32), u = (g, nI C, nI D, ro, dr, qn_F lw, qb_F op, qb_F se, qn_F st, sn, rx, qn_F wc, qn_F wk, wr, qn_F sc, qn_F sv, qn_F pn, pr, pw, qb_F pO, qb_F pI) ∧ v = (g, nI C, nI D, nI H, qn_F hc, qn_F hk, hv, qb_F ht, qn_F cs, cr, cw, qb_F kn, qb_F op, qb_F se, qn_F st, ry, qn_F yc, qn_F ys, qn_F wk, yv, qb_F yt, qn_F sv) ∧ rl_B k C D H wc ∧ (∀ s, s < 4 → rl_s C op st wc yc sc ys sv wk rx ry wr yt yv s) ∧ rl_H C D H hc hk ht hv ro dr lw op st sn ∧ rl_P C op se st pn pr pw pO pI cs cr cw kn
theorem i_mk (hB : rl_B k C D H wc) (hS : ∀ s, s < 4 → rl_s C op st wc yc sc ys sv wk rx ry wr yt yv s) (hH : rl_H C D H hc hk ht hv ro dr lw op st sn) (hP : rl_P C op se st pn pr pw pO pI cs cr cw kn) : i_Rel k (g, nI C, nI D, ro, dr, qn_F lw, qb_F op, qb_F se, qn_F st, sn, rx, qn_F wc, qn_F wk, wr, qn_F sc, qn_F sv, qn_F pn, pr, pw, qb_F pO, qb_F pI) (g, nI C, nI D, nI H, qn_F hc, qn_F hk, hv, qb_F ht, qn_F cs, cr, cw, qb_F kn, qb_F op, qb_F se, qn_F st, ry, qn_F yc, qn_F ys, qn_F wk, yv, qb_F yt, qn_F sv) :=
  ⟨g, C, D, H, ro, dr, sn, rx, wr, pr, pw, cr, cw, ry, lw, st, wc, wk, sc, sv, pn, hc, hk, cs, yc, ys, op, se, pO, pI, ht, kn, yt, hv, yv, rfl, rfl, hB, hS, hH, hP⟩
theorem i_up {k : Nat} {u : SX} {v : SY} (h : i_Rel k u v) : i_Rel (k + 5) u v := by
  obtain ⟨g, C, D, H, ro, dr, sn, rx, wr, pr, pw, cr, cw, ry, lw, st, wc, wk, sc, sv, pn, hc, hk, cs, yc, ys, op, se, pO, pI, ht, kn, yt, hv, yv, rfl, rfl, ⟨b1, b2, b3⟩, hS, hH, hP⟩ := h
  exact i_mk ⟨b1, by omega, by omega⟩ hS hH hP
theorem rl_zero (z : Int32) : i_Rel 1 (z, 0, 0, qk_c (fun _ => 0) (fun _ => 1000000000000) 0 64, qk_c (fun _ => 0) (fun _ => 1000000000000) 0 64, (fun _ => 0), (fun _ => 0), (fun _ => 0), (fun _ => 0), (fun _ => 0), (fun _ => 0), (fun _ => 0), (fun _ => 0), (fun _ => 0), (fun _ => 0), (fun _ => 0), (fun _ => 0), (fun _ => 0), (fun _ => 0), (fun _ => 0), (fun _ => 0)) (z, 0, 0, 0, (fun _ => 0), (fun _ => 0), (fun _ => 0), (fun _ => 0), (fun _ => 0), (fun _ => 0), (fun _ => 0), (fun _ => 0), (fun _ => 0), (fun _ => 0), (fun _ => 0), (fun _ => 0), (fun _ => 0), (fun _ => 0), (fun _ => 0), (fun _ => 0), (fun _ => 0), (fun _ => 0)) := by
  refine i_mk (C := 0) (D := 0) (H := 0) (ro := qk_c (fun _ => 0) (fun _ => 1000000000000) 0 64) (dr := qk_c (fun _ => 0) (fun _ => 1000000000000) 0 64) (lw := fun _ => 0) (op := fun _ => false) (se := fun _ => false) (st := fun _ => 0) (wc := fun _ => 0) (wk := fun _ => 0) (sc := fun _ => 0) (sv := fun _ => 0) (pn := fun _ => 0) (pO := fun _ => false) (pI := fun _ => false) (hc := fun _ => 0) (hk := fun _ => 0) (ht := fun _ => false) (cs := fun _ => 0) (kn := fun _ => false) (yc := fun _ => 0) (ys := fun _ => 0) (yt := fun _ => false) ?_ ?_ ?_ ?_
  · exact ⟨by omega, by omega, by simp [qs_S]⟩
  · exact fun s _ => ⟨Nat.zero_le 12, fun _ => ⟨rfl, rfl, rfl⟩, fun z => absurd (show false = true from z) (by decide)⟩
  · exact ⟨fun i hi => by omega, fun i j _ hj => by omega, fun key hy => ⟨qk_in0 hy, qk_in0 hy, Nat.le_refl _⟩, fun s _ z => absurd (show false = true from z) (by decide)⟩
  · exact ⟨fun j z => absurd (show false = true from z) (by decide), fun i _ z => absurd rfl z, fun i i' _ _ z => absurd rfl z, fun j s z => absurd (show false = true from z) (by decide)⟩
theorem rl_in (z : Int32) {post : SX → Prop} (h : post (z, 0, 0, qk_c (fun _ => 0) (fun _ => 1000000000000) 0 64, qk_c (fun _ => 0) (fun _ => 1000000000000) 0 64, (fun _ => 0), (fun _ => 0), (fun _ => 0), (fun _ => 0), (fun _ => 0), (fun _ => 0), (fun _ => 0), (fun _ => 0), (fun _ => 0), (fun _ => 0), (fun _ => 0), (fun _ => 0), (fun _ => 0), (fun _ => 0), (fun _ => 0), (fun _ => 0))) : ∃ n172 : Nat, wX_init_172 post z 0 0 n172 0 (fun _ => 0) (fun _ => 0) (fun _ => 0) (fun _ => 0) (fun _ => 0) (fun _ => 0) (fun _ => 0) (fun _ => 0) (fun _ => 0) (fun _ => 0) (fun _ => 0) (fun _ => 0) (fun _ => 0) (fun _ => 0) (fun _ => 0) (fun _ => 0) (fun _ => 0) (fun _ => 0) := by
  have hl := wx_in172 (post := post) (g := z) (C := 0) (D := 0) (ro := fun _ => 0) (dr := fun _ => 0) (lw := fun _ => 0) (op := fun _ => false) (se := fun _ => false) (st := fun _ => 0) (sn := fun _ => 0) (rx := fun _ => 0) (wc := fun _ => 0) (wk := fun _ => 0) (wr := fun _ => 0) (sc := fun _ => 0) (sv := fun _ => 0) (pn := fun _ => 0) (pr := fun _ => 0) (pw := fun _ => 0) (pO := fun _ => false) (pI := fun _ => false) h 64 0 (by omega)
  rw [qk_0] at hl
  exact ⟨65, hl⟩
theorem i_vc0 (k0 : Int32) : wpX_init (fun u => wpY_init (fun v => i_Rel 1 u v) k0) k0 := by
  by_cases h2 : 2 ≤ k0
  · by_cases h6 : k0 ≤ 6
    · exact br_t h2 (br_t h6 (rl_in k0 (br_t h2 (br_t h6 (rl_zero k0)))))
    · exact br_t h2 (br_f h6 (rl_in 6 (br_t h2 (br_f h6 (rl_zero 6)))))
  · exact br_f h2 (br_t (by decide) (rl_in 2 (br_f h2 (rl_zero 2))))
end
end
section
section
variable {g : Int32} {k C D H : Nat} {ro dr sn rx wr pr pw cr cw ry : Nat → Int64} {lw st wc wk sc sv pn hc hk cs yc ys : Nat → Nat} {op se pO pI ht kn yt : Nat → Bool} {hv yv : Nat → Int32}
theorem mx_begin {post : Int32 → SX → Prop} {s : Nat} {b : Bool} (hs : s < 4) (ho : op s = false) (h : post 0 (g, nI C, nI D, ro, dr, qn_F lw, qb_F (qu_p op s true), qb_F (qu_p se s b), qn_F (qu_p st s C), qk_c sn ro (64 * s) 64, rx, qn_F wc, qn_F wk, wr, qn_F sc, qn_F sv, qn_F pn, pr, pw, qb_F pO, qb_F pI)) : wpX_begin post (g, nI C, nI D, ro, dr, qn_F lw, qb_F op, qb_F se, qn_F st, sn, rx, qn_F wc, qn_F wk, wr, qn_F sc, qn_F sv, qn_F pn, pr, pw, qb_F pO, qb_F pI) (nI s) (qb_i b) := by
  unfold wpX_begin
  have h4 : vp_in (nI s) 4 := vp_in_nI hs (by omega)
  simp only [nI_clamp (show s < 2 ^ 31 by omega), qb_at, qb_nar, qb_nar1, qb_U, qn_U]
  refine pk_lt s 0 (fun h => absurd h (by omega)) (fun _ => pk_le 4 s (fun h => absurd h (by omega)) (fun _ => ⟨h4, br_t (by rw [ho]; rfl) ⟨h4, nm_e ⟨h4, nm_e ⟨h4, nm_e ?_⟩⟩⟩⟩))
  have hl := wx_be46 hs h 64 0 (by omega)
  rw [qk_0] at hl
  exact ⟨65, hl⟩
theorem my_begin {post : Int32 → SY → Prop} {s : Nat} {b : Bool} (hs : s < 4) (ho : op s = false) (h : post 0 (g, nI C, nI D, nI H, qn_F hc, qn_F hk, hv, qb_F ht, qn_F cs, cr, cw, qb_F kn, qb_F (qu_p op s true), qb_F (qu_p se s b), qn_F (qu_p st s C), qu_p ry s 0, qn_F (qu_p yc s 0), qn_F (qu_p ys s 0), qn_F wk, yv, qb_F yt, qn_F sv)) : wpY_begin post (g, nI C, nI D, nI H, qn_F hc, qn_F hk, hv, qb_F ht, qn_F cs, cr, cw, qb_F kn, qb_F op, qb_F se, qn_F st, ry, qn_F yc, qn_F ys, qn_F wk, yv, qb_F yt, qn_F sv) (nI s) (qb_i b) := by
  unfold wpY_begin
  have h4 : vp_in (nI s) 4 := vp_in_nI hs (by omega)
  simp only [nI_clamp (show s < 2 ^ 31 by omega), qb_at, qb_nar, qb_nar1, qb_U, qn_U, qn_U0, qu_L]
  exact pk_lt s 0 (fun h => absurd h (by omega)) (fun _ => pk_lt 3 s (fun h => absurd h (by omega)) (fun _ => ⟨h4, br_t (by rw [ho]; rfl) ⟨h4, nm_e ⟨h4, nm_e ⟨h4, nm_e ⟨h4, nm_e ⟨h4, nm_e ⟨h4, nm_e h⟩⟩⟩⟩⟩⟩⟩))
theorem mx_beginR {post : Int32 → SX → Prop} {s : Nat} {b : Int32} (hs : s < 4) (ho : op s = true) (h : post (-1) (g, nI C, nI D, ro, dr, qn_F lw, qb_F op, qb_F se, qn_F st, sn, rx, qn_F wc, qn_F wk, wr, qn_F sc, qn_F sv, qn_F pn, pr, pw, qb_F pO, qb_F pI)) : wpX_begin post (g, nI C, nI D, ro, dr, qn_F lw, qb_F op, qb_F se, qn_F st, sn, rx, qn_F wc, qn_F wk, wr, qn_F sc, qn_F sv, qn_F pn, pr, pw, qb_F pO, qb_F pI) (nI s) b := by
  unfold wpX_begin
  simp only [nI_clamp (show s < 2 ^ 31 by omega), qb_at]
  exact pk_lt s 0 (fun h => absurd h (by omega)) (fun _ => pk_le 4 s (fun h => absurd h (by omega)) (fun _ => ⟨vp_in_nI hs (by omega), br_f (by rw [ho]; decide) h⟩))
theorem my_beginR {post : Int32 → SY → Prop} {s : Nat} {b : Int32} (hs : s < 4) (ho : op s = true) (h : post (-1) (g, nI C, nI D, nI H, qn_F hc, qn_F hk, hv, qb_F ht, qn_F cs, cr, cw, qb_F kn, qb_F op, qb_F se, qn_F st, ry, qn_F yc, qn_F ys, qn_F wk, yv, qb_F yt, qn_F sv)) : wpY_begin post (g, nI C, nI D, nI H, qn_F hc, qn_F hk, hv, qb_F ht, qn_F cs, cr, cw, qb_F kn, qb_F op, qb_F se, qn_F st, ry, qn_F yc, qn_F ys, qn_F wk, yv, qb_F yt, qn_F sv) (nI s) b := by
  unfold wpY_begin
  simp only [nI_clamp (show s < 2 ^ 31 by omega), qb_at]
  exact pk_lt s 0 (fun h => absurd h (by omega)) (fun _ => pk_lt 3 s (fun h => absurd h (by omega)) (fun _ => ⟨vp_in_nI hs (by omega), br_f (by rw [ho]; decide) h⟩))
theorem mx_read {post : Int64 → SX → Prop} {s key : Nat} (hs : s < 4) (ho : op s = true) (hw : wc s ≤ 12) (hp : ∀ p, p < wc s → wk (12 * s + p) < 64) (hy : key < 64) (h : post (ql_l wk wr (12 * s) key (sn (64 * s + key)) (wc s)) (g, nI C, nI D, ro, dr, qn_F lw, qb_F op, qb_F se, qn_F st, sn, qu_p rx s (qo_v wk (wc s) (12 * s) key (rx s)), qn_F wc, qn_F wk, wr, qn_F sc, qn_F sv, qn_F pn, pr, pw, qb_F pO, qb_F pI)) : wpX_read post (g, nI C, nI D, ro, dr, qn_F lw, qb_F op, qb_F se, qn_F st, sn, rx, qn_F wc, qn_F wk, wr, qn_F sc, qn_F sv, qn_F pn, pr, pw, qb_F pO, qb_F pI) (nI s) (nI key) := by
  unfold wpX_read
  dsimp only
  refine wx_isOpenT hs ho (br_f (by decide) ?_)
  refine wx_isKeyT hy (br_f (by decide) ?_)
  refine wx_add hs hw hp hy ?_
  dsimp only
  exact wx_vis hs hw hp hy h
theorem my_read {post : Int64 → SY → Prop} {s key : Nat} (hs : s < 4) (ho : op s = true) (hw : yc s ≤ 12) (hp : ∀ p, p < yc s → wk (12 * s + p) < 64) (hy : key < 64) (hH : H ≤ 520) (hm : st s < 2 ^ 31) (hh : ∀ i, i < H → hc i < 2 ^ 31 ∧ hk i < 2 ^ 31) (h : post (ql_l wk (qv_v yt yv) (12 * s) key (qa_f hc hk (qv_v ht hv) (st s) key H) (yc s)) (g, nI C, nI D, nI H, qn_F hc, qn_F hk, hv, qb_F ht, qn_F cs, cr, cw, qb_F kn, qb_F op, qb_F se, qn_F st, qu_p ry s (qo_v wk (yc s) (12 * s) key (ry s)), qn_F yc, qn_F ys, qn_F wk, yv, qb_F yt, qn_F sv)) : wpY_read post (g, nI C, nI D, nI H, qn_F hc, qn_F hk, hv, qb_F ht, qn_F cs, cr, cw, qb_F kn, qb_F op, qb_F se, qn_F st, ry, qn_F yc, qn_F ys, qn_F wk, yv, qb_F yt, qn_F sv) (nI s) (nI key) := by
  unfold wpY_read
  dsimp only
  refine wy_isOpenT hs ho (br_f (by decide) ?_)
  refine wy_isKeyT hy (br_f (by decide) ?_)
  refine wy_note hs hw hp hy ?_
  dsimp only
  exact wy_sees hs hw hp hy hH hm hh h
theorem mx_seen {post : Int32 → Prop} {s key : Nat} (hs : s < 4) (ho : op s = true) (hw : wc s ≤ 12) (hp : ∀ p, p < wc s → wk (12 * s + p) < 64) (hy : key < 64) (h : (ql_l wk wr (12 * s) key (sn (64 * s + key)) (wc s) = 1000000000000 → post 0) ∧ (¬ ql_l wk wr (12 * s) key (sn (64 * s + key)) (wc s) = 1000000000000 → post 1)) : wpX_seen post (g, nI C, nI D, ro, dr, qn_F lw, qb_F op, qb_F se, qn_F st, sn, rx, qn_F wc, qn_F wk, wr, qn_F sc, qn_F sv, qn_F pn, pr, pw, qb_F pO, qb_F pI) (nI s) (nI key) := by
  unfold wpX_seen
  dsimp only
  refine wx_isOpenT hs ho (br_f (by decide) ?_)
  refine wx_isKeyT hy (br_f (by decide) ?_)
  exact wx_vis hs hw hp hy h
theorem my_seen {post : Int32 → Prop} {s key : Nat} (hs : s < 4) (ho : op s = true) (hw : yc s ≤ 12) (hp : ∀ p, p < yc s → wk (12 * s + p) < 64) (hy : key < 64) (hH : H ≤ 520) (hm : st s < 2 ^ 31) (hh : ∀ i, i < H → hc i < 2 ^ 31 ∧ hk i < 2 ^ 31) (h : (ql_l wk (qv_v yt yv) (12 * s) key (qa_f hc hk (qv_v ht hv) (st s) key H) (yc s) = 1000000000000 → post 0) ∧ (¬ ql_l wk (qv_v yt yv) (12 * s) key (qa_f hc hk (qv_v ht hv) (st s) key H) (yc s) = 1000000000000 → post 1)) : wpY_seen post (g, nI C, nI D, nI H, qn_F hc, qn_F hk, hv, qb_F ht, qn_F cs, cr, cw, qb_F kn, qb_F op, qb_F se, qn_F st, ry, qn_F yc, qn_F ys, qn_F wk, yv, qb_F yt, qn_F sv) (nI s) (nI key) := by
  unfold wpY_seen
  dsimp only
  refine wy_isOpenT hs ho (br_f (by decide) ?_)
  refine wy_isKeyT hy (br_f (by decide) ?_)
  exact wy_sees hs hw hp hy hH hm hh h
theorem mx_next {post : Int32 → SX → Prop} {s key : Nat} {F : Nat → Int64} (hs : s < 4) (ho : op s = true) (hw : wc s ≤ 12) (hp : ∀ p, p < wc s → wk (12 * s + p) < 64) (hy : key < 64) (hF : ∀ key, key < 64 → ql_l wk wr (12 * s) key (sn (64 * s + key)) (wc s) = F key) (h : post (nI (qx_n F (qo_v wk (wc s) (12 * s)) (64 - key) key (rx s)).1) (g, nI C, nI D, ro, dr, qn_F lw, qb_F op, qb_F se, qn_F st, sn, qu_p rx s (qx_n F (qo_v wk (wc s) (12 * s)) (64 - key) key (rx s)).2, qn_F wc, qn_F wk, wr, qn_F sc, qn_F sv, qn_F pn, pr, pw, qb_F pO, qb_F pI)) : wpX_next post (g, nI C, nI D, ro, dr, qn_F lw, qb_F op, qb_F se, qn_F st, sn, rx, qn_F wc, qn_F wk, wr, qn_F sc, qn_F sv, qn_F pn, pr, pw, qb_F pO, qb_F pI) (nI s) (nI key) := by
  unfold wpX_next
  dsimp only
  refine wx_isOpenT hs ho (br_f (by decide) ?_)
  refine wx_isKeyT hy (br_f (by decide) ?_)
  have hl := wx_nx20 hs hw hp hF (64 - key) key (rx s) (by omega) h
  rw [qu_id] at hl
  exact ⟨_, hl⟩
theorem my_next {post : Int32 → SY → Prop} {s key : Nat} {F : Nat → Int64} (hs : s < 4) (ho : op s = true) (hw : yc s ≤ 12) (hp : ∀ p, p < yc s → wk (12 * s + p) < 64) (hy : key < 64) (hH : H ≤ 520) (hm : st s < 2 ^ 31) (hh : ∀ i, i < H → hc i < 2 ^ 31 ∧ hk i < 2 ^ 31) (hF : ∀ key, key < 64 → ql_l wk (qv_v yt yv) (12 * s) key (qa_f hc hk (qv_v ht hv) (st s) key H) (yc s) = F key) (h : post (nI (qx_n F (qo_v wk (yc s) (12 * s)) (64 - key) key (ry s)).1) (g, nI C, nI D, nI H, qn_F hc, qn_F hk, hv, qb_F ht, qn_F cs, cr, cw, qb_F kn, qb_F op, qb_F se, qn_F st, qu_p ry s (qx_n F (qo_v wk (yc s) (12 * s)) (64 - key) key (ry s)).2, qn_F yc, qn_F ys, qn_F wk, yv, qb_F yt, qn_F sv)) : wpY_next post (g, nI C, nI D, nI H, qn_F hc, qn_F hk, hv, qb_F ht, qn_F cs, cr, cw, qb_F kn, qb_F op, qb_F se, qn_F st, ry, qn_F yc, qn_F ys, qn_F wk, yv, qb_F yt, qn_F sv) (nI s) (nI key) := by
  unfold wpY_next
  dsimp only
  refine wy_isOpenT hs ho (br_f (by decide) ?_)
  refine wy_isKeyT hy (br_f (by decide) ?_)
  have hl := wy_nx20 hs hw hp hH hm hh hF (64 - key) key (ry s) (by omega) h
  rw [qu_id] at hl
  exact ⟨_, hl⟩
theorem mx_sum {post : Int64 → SX → Prop} {s lo hb : Nat} {F : Nat → Int64} (hs : s < 4) (ho : op s = true) (hw : wc s ≤ 12) (hp : ∀ p, p < wc s → wk (12 * s + p) < 64) (hy : lo < 64) (hb64 : hb < 64) (hF : ∀ key, key < 64 → ql_l wk wr (12 * s) key (sn (64 * s + key)) (wc s) = F key) (h : post (qx_s F (qo_v wk (wc s) (12 * s)) (hb + 1 - lo) lo 0 (rx s)).1 (g, nI C, nI D, ro, dr, qn_F lw, qb_F op, qb_F se, qn_F st, sn, qu_p rx s (qx_s F (qo_v wk (wc s) (12 * s)) (hb + 1 - lo) lo 0 (rx s)).2, qn_F wc, qn_F wk, wr, qn_F sc, qn_F sv, qn_F pn, pr, pw, qb_F pO, qb_F pI)) : wpX_sum post (g, nI C, nI D, ro, dr, qn_F lw, qb_F op, qb_F se, qn_F st, sn, rx, qn_F wc, qn_F wk, wr, qn_F sc, qn_F sv, qn_F pn, pr, pw, qb_F pO, qb_F pI) (nI s) (nI lo) (nI hb) := by
  unfold wpX_sum
  dsimp only
  refine wx_isOpenT hs ho (br_f (by decide) ?_)
  refine wx_isKeyT hy (br_f (by decide) ?_)
  refine wx_isKeyT hb64 (br_f (by decide) ?_)
  have hl := wx_sm34 hs hw hp hF hb64 (hb + 1 - lo) lo 0 (rx s) (by omega) (by omega) h
  rw [qu_id] at hl
  exact ⟨_, hl⟩
theorem my_sum {post : Int64 → SY → Prop} {s lo hb : Nat} {F : Nat → Int64} (hs : s < 4) (ho : op s = true) (hw : yc s ≤ 12) (hp : ∀ p, p < yc s → wk (12 * s + p) < 64) (hy : lo < 64) (hb64 : hb < 64) (hH : H ≤ 520) (hm : st s < 2 ^ 31) (hh : ∀ i, i < H → hc i < 2 ^ 31 ∧ hk i < 2 ^ 31) (hF : ∀ key, key < 64 → ql_l wk (qv_v yt yv) (12 * s) key (qa_f hc hk (qv_v ht hv) (st s) key H) (yc s) = F key) (h : post (qx_s F (qo_v wk (yc s) (12 * s)) (hb + 1 - lo) lo 0 (ry s)).1 (g, nI C, nI D, nI H, qn_F hc, qn_F hk, hv, qb_F ht, qn_F cs, cr, cw, qb_F kn, qb_F op, qb_F se, qn_F st, qu_p ry s (qx_s F (qo_v wk (yc s) (12 * s)) (hb + 1 - lo) lo 0 (ry s)).2, qn_F yc, qn_F ys, qn_F wk, yv, qb_F yt, qn_F sv)) : wpY_sum post (g, nI C, nI D, nI H, qn_F hc, qn_F hk, hv, qb_F ht, qn_F cs, cr, cw, qb_F kn, qb_F op, qb_F se, qn_F st, ry, qn_F yc, qn_F ys, qn_F wk, yv, qb_F yt, qn_F sv) (nI s) (nI lo) (nI hb) := by
  unfold wpY_sum
  dsimp only
  refine wy_isOpenT hs ho (br_f (by decide) ?_)
  refine wy_isKeyT hy (br_f (by decide) ?_)
  refine wy_isKeyT hb64 (br_f (by decide) ?_)
  have hl := wy_sm34 hs hw hp hH hm hh hF hb64 (hb + 1 - lo) lo 0 (ry s) (by omega) (by omega) h
  rw [qu_id] at hl
  exact ⟨_, hl⟩
theorem mx_write {post : Int32 → SX → Prop} {s key : Nat} {x : Int32} {b : Bool} (hs : s < 4) (ho : op s = true) (hw : ∀ o, o < 4 → wc o ≤ 12) (hp : ∀ o, o < 4 → ∀ p, p < wc o → wk (12 * o + p) < 64) (hy : key < 64) (hl : lw key < 2 ^ 31) (hm : st s < 2 ^ 31) (r : Bool) (hr : r = true ↔ ∃ o, o < 4 ∧ o ≠ s ∧ qw_W wk (12 * o) key (wc o) = true) (h1 : r = true → post 1 (g, nI C, nI D, ro, dr, qn_F lw, qb_F op, qb_F se, qn_F st, sn, rx, qn_F wc, qn_F wk, wr, qn_F sc, qn_F sv, qn_F pn, pr, pw, qb_F pO, qb_F pI)) (h2 : r = false → st s < lw key → post 2 (g, nI C, nI D, ro, dr, qn_F lw, qb_F (qu_p op s false), qb_F se, qn_F st, sn, qu_p rx s 0, qn_F (qu_p wc s 0), qn_F wk, wr, qn_F (qu_p sc s 0), qn_F sv, qn_F pn, pr, pw, qb_F pO, qb_F pI)) (h4 : r = false → ¬ st s < lw key → ¬ wc s < 12 → post 4 (g, nI C, nI D, ro, dr, qn_F lw, qb_F op, qb_F se, qn_F st, sn, rx, qn_F wc, qn_F wk, wr, qn_F sc, qn_F sv, qn_F pn, pr, pw, qb_F pO, qb_F pI)) (h0 : r = false → ¬ st s < lw key → wc s < 12 → post 0 (g, nI C, nI D, ro, dr, qn_F lw, qb_F op, qb_F se, qn_F st, sn, rx, qn_F (qu_p wc s (wc s + 1)), qn_F (qu_p wk (12 * s + wc s) key), qu_p wr (12 * s + wc s) (if b = true then x.toInt64 else 1000000000000), qn_F sc, qn_F sv, qn_F pn, pr, pw, qb_F pO, qb_F pI)) : wpX_write post (g, nI C, nI D, ro, dr, qn_F lw, qb_F op, qb_F se, qn_F st, sn, rx, qn_F wc, qn_F wk, wr, qn_F sc, qn_F sv, qn_F pn, pr, pw, qb_F pO, qb_F pI) (nI s) (nI key) x (qb_i b) := by
  unfold wpX_write
  dsimp only
  refine wx_isOpenT hs ho (br_f (by decide) ?_)
  refine wx_isKeyT hy (br_f (by decide) ?_)
  refine wx_lk hs hw hp hy r hr ?_
  have hw12 := hw s hs
  have hs4 : vp_in (nI s) 4 := vp_in_nI hs (by omega)
  simp only [nI_clamp (show s < 2 ^ 31 by omega), nI_clamp (show key < 2 ^ 31 by omega), qn_at]
  refine qb_br (fun e => ⟨vp_in_nI hy (by omega), hs4, pk_le (lw key) (st s) (fun e1 => ⟨hs4, nm_e ?_⟩) (fun e1 => wx_end hs (h2 e e1))⟩) (fun e => h1 e)
  simp only [qi_12, nI_clamp (show 12 * s + wc s < 2 ^ 31 by omega), qn_U]
  refine pk_lt (wc s) 12 (fun e2 => ⟨vp_in_nI (by omega) (by omega), nm_e ?_⟩) (fun e2 => h4 e (by omega) (by omega))
  have hq := h0 e (by omega) e2
  refine qb_br (fun e3 => ?_) (fun e3 => ?_)
  · unfold wX_write_105
    simp only [nI_clamp (show s < 2 ^ 31 by omega), nI_clamp (show 12 * s + wc s < 2 ^ 31 by omega), nI_1, qn_U, qu_L]
    rw [if_neg (by rw [e3]; decide)] at hq
    exact ⟨vp_in_nI (by omega) (by omega), nm_e ⟨hs4, nm_e hq⟩⟩
  · unfold wX_write_105
    simp only [nI_clamp (show s < 2 ^ 31 by omega), nI_clamp (show 12 * s + wc s < 2 ^ 31 by omega), nI_1, qn_U, qu_L]
    rw [if_pos e3] at hq
    exact ⟨vp_in_nI (by omega) (by omega), nm_e ⟨hs4, nm_e hq⟩⟩
theorem my_write {post : Int32 → SY → Prop} {s key : Nat} {x : Int32} {b : Bool} (hs : s < 4) (ho : op s = true) (hw : ∀ o, o < 4 → op o = true → yc o ≤ 12) (hp : ∀ o, o < 4 → op o = true → ∀ p, p < yc o → wk (12 * o + p) < 64) (hy : key < 64) (hH : H ≤ 520) (hm : st s < 2 ^ 31) (hh : ∀ i, i < H → hc i < 2 ^ 31 ∧ hk i < 2 ^ 31) (h1 : (∃ o, o < 4 ∧ o ≠ s ∧ op o = true ∧ qw_W wk (12 * o) key (yc o) = true) → post 1 (g, nI C, nI D, nI H, qn_F hc, qn_F hk, hv, qb_F ht, qn_F cs, cr, cw, qb_F kn, qb_F op, qb_F se, qn_F st, ry, qn_F yc, qn_F ys, qn_F wk, yv, qb_F yt, qn_F sv)) (h2 : ¬ (∃ o, o < 4 ∧ o ≠ s ∧ op o = true ∧ qw_W wk (12 * o) key (yc o) = true) → (∃ i, i < H ∧ st s < hc i ∧ hk i = key) → post 2 (g, nI C, nI D, nI H, qn_F hc, qn_F hk, hv, qb_F ht, qn_F cs, cr, cw, qb_F kn, qb_F (qu_p op s false), qb_F se, qn_F st, ry, qn_F yc, qn_F ys, qn_F wk, yv, qb_F yt, qn_F sv)) (h0 : ¬ (∃ o, o < 4 ∧ o ≠ s ∧ op o = true ∧ qw_W wk (12 * o) key (yc o) = true) → ¬ (∃ i, i < H ∧ st s < hc i ∧ hk i = key) → (yc s = 12 → post 4 (g, nI C, nI D, nI H, qn_F hc, qn_F hk, hv, qb_F ht, qn_F cs, cr, cw, qb_F kn, qb_F op, qb_F se, qn_F st, ry, qn_F yc, qn_F ys, qn_F wk, yv, qb_F yt, qn_F sv)) ∧ (yc s ≠ 12 → post 0 (g, nI C, nI D, nI H, qn_F hc, qn_F hk, hv, qb_F ht, qn_F cs, cr, cw, qb_F kn, qb_F op, qb_F se, qn_F st, ry, qn_F (qu_p yc s (yc s + 1)), qn_F ys, qn_F (qu_p wk (12 * s + yc s) key), qu_p yv (12 * s + yc s) x, qb_F (qu_p yt (12 * s + yc s) b), qn_F sv))) : wpY_write post (g, nI C, nI D, nI H, qn_F hc, qn_F hk, hv, qb_F ht, qn_F cs, cr, cw, qb_F kn, qb_F op, qb_F se, qn_F st, ry, qn_F yc, qn_F ys, qn_F wk, yv, qb_F yt, qn_F sv) (nI s) (nI key) x (qb_i b) := by
  unfold wpY_write
  dsimp only
  refine wy_isOpenT hs ho (br_f (by decide) ?_)
  refine wy_isKeyT hy (br_f (by decide) ?_)
  exact ⟨5, wy_wr21 hs hw hp hy h1 (fun a => ⟨H + 1, wy_wr64 hs (hw s hs ho) hy hH hm hh (h2 a) (h0 a) H 0 (by omega) (fun q hq => by omega)⟩) 4 0 (by omega) (fun o ho => by omega)⟩
theorem mx_save {post : Int32 → SX → Prop} {s : Nat} (hs : s < 4) (ho : op s = true) (h3 : sc s ≤ 3) (h : (sc s < 3 → post 0 (g, nI C, nI D, ro, dr, qn_F lw, qb_F op, qb_F se, qn_F st, sn, rx, qn_F wc, qn_F wk, wr, qn_F (qu_p sc s (sc s + 1)), qn_F (qu_p sv (3 * s + sc s) (wc s)), qn_F pn, pr, pw, qb_F pO, qb_F pI)) ∧ (¬ sc s < 3 → post 4 (g, nI C, nI D, ro, dr, qn_F lw, qb_F op, qb_F se, qn_F st, sn, rx, qn_F wc, qn_F wk, wr, qn_F sc, qn_F sv, qn_F pn, pr, pw, qb_F pO, qb_F pI))) : wpX_save post (g, nI C, nI D, ro, dr, qn_F lw, qb_F op, qb_F se, qn_F st, sn, rx, qn_F wc, qn_F wk, wr, qn_F sc, qn_F sv, qn_F pn, pr, pw, qb_F pO, qb_F pI) (nI s) := by
  unfold wpX_save
  dsimp only
  refine wx_isOpenT hs ho (br_f (by decide) ?_)
  have hs4 : vp_in (nI s) 4 := vp_in_nI hs (by omega)
  simp only [nI_clamp (show s < 2 ^ 31 by omega), qn_at]
  refine ⟨hs4, nm_e ?_⟩
  simp only [qi_3, nI_clamp (show 3 * s + sc s < 2 ^ 31 by omega), qn_U, nI_1]
  exact pk_lt (sc s) 3 (fun e => ⟨hs4, vp_in_nI (by omega) (by omega), nm_e ⟨hs4, nm_e (h.1 e)⟩⟩) (fun e => h.2 (by omega))
theorem my_save {post : Int32 → SY → Prop} {s : Nat} (hs : s < 4) (ho : op s = true) (h3 : ys s ≤ 3) (h : (ys s < 3 → post 0 (g, nI C, nI D, nI H, qn_F hc, qn_F hk, hv, qb_F ht, qn_F cs, cr, cw, qb_F kn, qb_F op, qb_F se, qn_F st, ry, qn_F yc, qn_F (qu_p ys s (ys s + 1)), qn_F wk, yv, qb_F yt, qn_F (qu_p sv (3 * s + ys s) (yc s)))) ∧ (¬ ys s < 3 → post 4 (g, nI C, nI D, nI H, qn_F hc, qn_F hk, hv, qb_F ht, qn_F cs, cr, cw, qb_F kn, qb_F op, qb_F se, qn_F st, ry, qn_F yc, qn_F ys, qn_F wk, yv, qb_F yt, qn_F sv))) : wpY_save post (g, nI C, nI D, nI H, qn_F hc, qn_F hk, hv, qb_F ht, qn_F cs, cr, cw, qb_F kn, qb_F op, qb_F se, qn_F st, ry, qn_F yc, qn_F ys, qn_F wk, yv, qb_F yt, qn_F sv) (nI s) := by
  unfold wpY_save
  dsimp only
  refine wy_isOpenT hs ho (br_f (by decide) ?_)
  have hs4 : vp_in (nI s) 4 := vp_in_nI hs (by omega)
  simp only [nI_clamp (show s < 2 ^ 31 by omega), qn_at, qi_3, nI_clamp (show 3 * s + ys s < 2 ^ 31 by omega), qn_U, nI_1]
  exact ⟨hs4, pk_eq (ys s) 3 (fun e => h.2 (by omega)) (fun e => ⟨hs4, hs4, vp_in_nI (by omega) (by omega), nm_e ⟨hs4, hs4, nm_e (h.1 (by omega))⟩⟩)⟩
theorem mx_undo {post : Int32 → SX → Prop} {s : Nat} (hs : s < 4) (ho : op s = true) (h3 : sc s ≤ 3) (h4 : sc s = 0 → post 4 (g, nI C, nI D, ro, dr, qn_F lw, qb_F op, qb_F se, qn_F st, sn, rx, qn_F wc, qn_F wk, wr, qn_F sc, qn_F sv, qn_F pn, pr, pw, qb_F pO, qb_F pI)) (h0 : ∀ q, sc s = q + 1 → post 0 (g, nI C, nI D, ro, dr, qn_F lw, qb_F op, qb_F se, qn_F st, sn, rx, qn_F (qu_p wc s (sv (3 * s + q))), qn_F wk, wr, qn_F (qu_p sc s q), qn_F sv, qn_F pn, pr, pw, qb_F pO, qb_F pI)) : wpX_undo post (g, nI C, nI D, ro, dr, qn_F lw, qb_F op, qb_F se, qn_F st, sn, rx, qn_F wc, qn_F wk, wr, qn_F sc, qn_F sv, qn_F pn, pr, pw, qb_F pO, qb_F pI) (nI s) := by
  unfold wpX_undo
  dsimp only
  refine wx_isOpenT hs ho (br_f (by decide) ?_)
  have hs4 : vp_in (nI s) 4 := vp_in_nI hs (by omega)
  simp only [nI_clamp (show s < 2 ^ 31 by omega), qn_at]
  refine ⟨hs4, ?_⟩
  cases e : sc s with
  | zero => exact nm_e (br_f (by decide) (h4 e))
  | succ q =>
    rw [nI_pred]
    refine nm_e ?_
    simp only [qi_3, nI_clamp (show 3 * s + q < 2 ^ 31 by omega), qn_U]
    exact pk_le 0 q (fun _ => ⟨vp_in_nI (by omega) (by omega), hs4, nm_e ⟨hs4, nm_e (h0 q e)⟩⟩) (fun h => absurd h (by omega))
theorem my_undo {post : Int32 → SY → Prop} {s : Nat} (hs : s < 4) (ho : op s = true) (h3 : ys s ≤ 3) (h4 : ys s = 0 → post 4 (g, nI C, nI D, nI H, qn_F hc, qn_F hk, hv, qb_F ht, qn_F cs, cr, cw, qb_F kn, qb_F op, qb_F se, qn_F st, ry, qn_F yc, qn_F ys, qn_F wk, yv, qb_F yt, qn_F sv)) (h0 : ∀ q, ys s = q + 1 → post 0 (g, nI C, nI D, nI H, qn_F hc, qn_F hk, hv, qb_F ht, qn_F cs, cr, cw, qb_F kn, qb_F op, qb_F se, qn_F st, ry, qn_F (qu_p yc s (sv (3 * s + q))), qn_F (qu_p ys s q), qn_F wk, yv, qb_F yt, qn_F sv)) : wpY_undo post (g, nI C, nI D, nI H, qn_F hc, qn_F hk, hv, qb_F ht, qn_F cs, cr, cw, qb_F kn, qb_F op, qb_F se, qn_F st, ry, qn_F yc, qn_F ys, qn_F wk, yv, qb_F yt, qn_F sv) (nI s) := by
  unfold wpY_undo
  dsimp only
  refine wy_isOpenT hs ho (br_f (by decide) ?_)
  have hs4 : vp_in (nI s) 4 := vp_in_nI hs (by omega)
  simp only [nI_clamp (show s < 2 ^ 31 by omega), qn_at]
  cases e : ys s with
  | zero => exact ⟨hs4, br_t rfl (h4 e)⟩
  | succ q =>
    rw [nI_pred]
    refine ⟨hs4, br_f (nI_ne0 (by omega) (by omega)) ⟨hs4, hs4, nm_e ⟨hs4, ?_⟩⟩⟩
    simp only [qn_U, qn_at, qu_s, qi_3, nI_clamp (show 3 * s + q < 2 ^ 31 by omega)]
    exact ⟨vp_in_nI (by omega) (by omega), hs4, nm_e (h0 q e)⟩
end
end
section
section
variable {k C D H : Nat} {ro dr sn rx wr pr pw cr cw ry : Nat → Int64} {lw st wc wk sc sv pn hc hq cs yc ys : Nat → Nat} {op se pO pI ht kn yt : Nat → Bool} {hv yv : Nat → Int32}
theorem rl_F {s : Nat} (hs : s < 4) (ho : op s = true) (hS : ∀ o, o < 4 → rl_s C op st wc yc sc ys sv wk rx ry wr yt yv o) (hH : rl_H C D H hc hq ht hv ro dr lw op st sn) : ∀ key, key < 64 → ql_l wk wr (12 * s) key (sn (64 * s + key)) (wc s) = ql_l wk (qv_v yt yv) (12 * s) key (qa_f hc hq (qv_v ht hv) (st s) key H) (yc s) := fun key hy => by
  obtain ⟨eyc, eys, hsc, erx, hst, hsv, hmono, hwk⟩ := (hS s hs).2.2 ho
  rw [eyc, (hH.2.2.2 s hs ho key hy).1]
  exact ql_c _ (fun p hp => (hwk p hp).2)
theorem rl_Bup (hB : rl_B k C D H wc) : rl_B (k + 5) C D H wc := ⟨hB.1, by have := hB.2.1; omega, by have := hB.2.2; omega⟩
theorem rl_Bend {s : Nat} (hs : s < 4) (hB : rl_B k C D H wc) : rl_B (k + 5) C D H (qu_p wc s 0) := by
  obtain ⟨b1, b2, b3⟩ := hB
  have := qs_u (wc := wc) (v := 0) hs
  exact ⟨b1, by omega, by omega⟩
theorem rl_Pend {s : Nat} (h : rl_P C op se st pn pr pw pO pI cs cr cw kn) : rl_P C (qu_p op s false) se st pn pr pw pO pI cs cr cw kn := rl_Pop h (fun o e => (qu_off e).2)
theorem rl_Hend {s : Nat} (h : rl_H C D H hc hq ht hv ro dr lw op st sn) : rl_H C D H hc hq ht hv ro dr lw (qu_p op s false) st sn := rl_Hop h (fun o e => (qu_off e).2)
end
theorem i_vc_begin {k : Nat} {u : SX} {v : SY} (I : i_Rel k u v) (hk : k + 5 ≤ 2561) (v1 : Int32) (v2 : Int32) : wpX_begin (fun r u' => wpY_begin (fun r' v' => r' = r ∧ i_Rel (k + 5) u' v') v v1 (lw_bz v2)) u v1 (lw_bz v2) := by
  have I0 := I
  obtain ⟨g, C, D, H, ro, dr, sn, rx, wr, pr, pw, cr, cw, ry, lw, st, wc, wk, sc, sv, pn, hc, hq, cs, yc, ys, op, se, pO, pI, ht, kn, yt, hv, yv, rfl, rfl, hB, hS, hH, hP⟩ := I
  obtain ⟨f1, f2, f3, f4, f5, f6, f7, f8⟩ := rl_facts hB hk hS hH hP
  obtain ⟨b, hb⟩ := qb_bz v2
  rw [hb]
  rcases pk_ix v1 (n := 4) (by omega) with h | h | ⟨s, hs, rfl⟩
  · exact br_t h (br_t h ⟨rfl, i_up I0⟩)
  · have h0 : ¬ v1 < 0 := fun z => absurd (Int32.lt_of_lt_of_le z (Int32.le_trans (show (0 : Int32) ≤ nI 4 by decide) h)) (Int32.lt_irrefl)
    have h3 : 3 < v1 := Int32.lt_of_lt_of_le (show (3 : Int32) < nI 4 by decide) h
    exact br_f h0 (br_t h (br_f h0 (br_t h3 ⟨rfl, i_up I0⟩)))
  · cases ho : op s
    · exact mx_begin hs ho (my_begin hs ho ⟨rfl, i_mk (rl_Bup hB) (rl_Sbegin hS ho) (rl_Hbegin hs hH) (rl_Pbegin hP)⟩)
    · exact mx_beginR hs ho (my_beginR hs ho ⟨rfl, i_up I0⟩)
theorem i_vc_read {k : Nat} {u : SX} {v : SY} (I : i_Rel k u v) (hk : k + 5 ≤ 2561) (v1 : Int32) (v2 : Int32) : wpX_read (fun r u' => wpY_read (fun r' v' => r' = r ∧ i_Rel (k + 5) u' v') v v1 v2) u v1 v2 := by
  have I0 := I
  obtain ⟨g, C, D, H, ro, dr, sn, rx, wr, pr, pw, cr, cw, ry, lw, st, wc, wk, sc, sv, pn, hc, hq, cs, yc, ys, op, se, pO, pI, ht, kn, yt, hv, yv, rfl, rfl, hB, hS, hH, hP⟩ := I
  obtain ⟨f1, f2, f3, f4, f5, f6, f7, f8⟩ := rl_facts hB hk hS hH hP
  rcases wx_open v1 with ⟨s, hs, rfl, ho⟩ | ⟨nx, ny⟩
  · rcases wx_key v2 with ⟨key, hy, rfl⟩ | ⟨mx, my⟩
    · obtain ⟨eyc, eys, hsc, erx, hst, hsv, hmono, hwk⟩ := (hS s hs).2.2 ho
      refine mx_read hs ho (f5 s hs) (f6 s hs) hy ?_
      refine my_read hs ho (by rw [eyc]; exact f5 s hs) (by rw [eyc]; exact f6 s hs) hy (by omega) (f7 s hs ho) f4 ⟨(rl_F hs ho hS hH key hy).symm, ?_⟩
      rw [eyc, erx]
      exact i_mk (rl_Bup hB) (rl_Srd hS ho) hH hP
    · unfold wpX_read
      dsimp only
      refine wx_isOpenT hs ho (br_f (by decide) (mx _ (br_t rfl ?_)))
      unfold wpY_read
      dsimp only
      exact wy_isOpenT hs ho (br_f (by decide) (my _ (br_t rfl ⟨rfl, i_up I0⟩)))
  · unfold wpX_read
    dsimp only
    refine nx _ (br_t rfl ?_)
    unfold wpY_read
    dsimp only
    exact ny _ (br_t rfl ⟨rfl, i_up I0⟩)
theorem i_vc_next {k : Nat} {u : SX} {v : SY} (I : i_Rel k u v) (hk : k + 5 ≤ 2561) (v1 : Int32) (v2 : Int32) : wpX_next (fun r u' => wpY_next (fun r' v' => r' = r ∧ i_Rel (k + 5) u' v') v v1 v2) u v1 v2 := by
  have I0 := I
  obtain ⟨g, C, D, H, ro, dr, sn, rx, wr, pr, pw, cr, cw, ry, lw, st, wc, wk, sc, sv, pn, hc, hq, cs, yc, ys, op, se, pO, pI, ht, kn, yt, hv, yv, rfl, rfl, hB, hS, hH, hP⟩ := I
  obtain ⟨f1, f2, f3, f4, f5, f6, f7, f8⟩ := rl_facts hB hk hS hH hP
  rcases wx_open v1 with ⟨s, hs, rfl, ho⟩ | ⟨nx, ny⟩
  · rcases wx_key v2 with ⟨key, hy, rfl⟩ | ⟨mx, my⟩
    · obtain ⟨eyc, eys, hsc, erx, hst, hsv, hmono, hwk⟩ := (hS s hs).2.2 ho
      refine mx_next hs ho (f5 s hs) (f6 s hs) hy (rl_F hs ho hS hH) ?_
      refine my_next hs ho (by rw [eyc]; exact f5 s hs) (by rw [eyc]; exact f6 s hs) hy (by omega) (f7 s hs ho) f4 (fun _ _ => rfl) ?_
      rw [eyc, erx]
      exact ⟨rfl, i_mk (rl_Bup hB) (rl_Srd hS ho) hH hP⟩
    · unfold wpX_next
      dsimp only
      refine wx_isOpenT hs ho (br_f (by decide) (mx _ (br_t rfl ?_)))
      unfold wpY_next
      dsimp only
      exact wy_isOpenT hs ho (br_f (by decide) (my _ (br_t rfl ⟨rfl, i_up I0⟩)))
  · unfold wpX_next
    dsimp only
    refine nx _ (br_t rfl ?_)
    unfold wpY_next
    dsimp only
    exact ny _ (br_t rfl ⟨rfl, i_up I0⟩)
theorem i_vc_sum {k : Nat} {u : SX} {v : SY} (I : i_Rel k u v) (hk : k + 5 ≤ 2561) (v1 : Int32) (v2 : Int32) (v3 : Int32) : wpX_sum (fun r u' => wpY_sum (fun r' v' => r' = r ∧ i_Rel (k + 5) u' v') v v1 v2 v3) u v1 v2 v3 := by
  have I0 := I
  obtain ⟨g, C, D, H, ro, dr, sn, rx, wr, pr, pw, cr, cw, ry, lw, st, wc, wk, sc, sv, pn, hc, hq, cs, yc, ys, op, se, pO, pI, ht, kn, yt, hv, yv, rfl, rfl, hB, hS, hH, hP⟩ := I
  obtain ⟨f1, f2, f3, f4, f5, f6, f7, f8⟩ := rl_facts hB hk hS hH hP
  rcases wx_open v1 with ⟨s, hs, rfl, ho⟩ | ⟨nx, ny⟩
  · rcases wx_key v2 with ⟨lo, hlo, rfl⟩ | ⟨mx, my⟩
    · rcases wx_key v3 with ⟨hb, hhb, rfl⟩ | ⟨mx, my⟩
      · obtain ⟨eyc, eys, hsc, erx, hst, hsv, hmono, hwk⟩ := (hS s hs).2.2 ho
        refine mx_sum hs ho (f5 s hs) (f6 s hs) hlo hhb (rl_F hs ho hS hH) ?_
        refine my_sum hs ho (by rw [eyc]; exact f5 s hs) (by rw [eyc]; exact f6 s hs) hlo hhb (by omega) (f7 s hs ho) f4 (fun _ _ => rfl) ?_
        rw [eyc, erx]
        exact ⟨rfl, i_mk (rl_Bup hB) (rl_Srd hS ho) hH hP⟩
      · unfold wpX_sum
        dsimp only
        refine wx_isOpenT hs ho (br_f (by decide) (wx_isKeyT hlo (br_f (by decide) (mx _ (br_t rfl ?_)))))
        unfold wpY_sum
        dsimp only
        exact wy_isOpenT hs ho (br_f (by decide) (wy_isKeyT hlo (br_f (by decide) (my _ (br_t rfl ⟨rfl, i_up I0⟩)))))
    · unfold wpX_sum
      dsimp only
      refine wx_isOpenT hs ho (br_f (by decide) (mx _ (br_t rfl ?_)))
      unfold wpY_sum
      dsimp only
      exact wy_isOpenT hs ho (br_f (by decide) (my _ (br_t rfl ⟨rfl, i_up I0⟩)))
  · unfold wpX_sum
    dsimp only
    refine nx _ (br_t rfl ?_)
    unfold wpY_sum
    dsimp only
    exact ny _ (br_t rfl ⟨rfl, i_up I0⟩)
theorem i_vc_write {k : Nat} {u : SX} {v : SY} (I : i_Rel k u v) (hk : k + 5 ≤ 2561) (v1 : Int32) (v2 : Int32) (v3 : Int32) (v4 : Int32) : wpX_write (fun r u' => wpY_write (fun r' v' => r' = r ∧ i_Rel (k + 5) u' v') v v1 v2 v3 (lw_bz v4)) u v1 v2 v3 (lw_bz v4) := by
  have I0 := I
  obtain ⟨g, C, D, H, ro, dr, sn, rx, wr, pr, pw, cr, cw, ry, lw, st, wc, wk, sc, sv, pn, hc, hq, cs, yc, ys, op, se, pO, pI, ht, kn, yt, hv, yv, rfl, rfl, hB, hS, hH, hP⟩ := I
  obtain ⟨f1, f2, f3, f4, f5, f6, f7, f8⟩ := rl_facts hB hk hS hH hP
  obtain ⟨b, hb⟩ := qb_bz v4
  rw [hb]
  rcases wx_open v1 with ⟨s, hs, rfl, ho⟩ | ⟨nx, ny⟩
  · rcases wx_key v2 with ⟨key, hy, rfl⟩ | ⟨mx, my⟩
    · obtain ⟨eyc, eys, hsc, erx, hst, hsv, hmono, hwk⟩ := (hS s hs).2.2 ho
      have hlw := (hH.2.2.1 key hy).2.2
      have hcf := (hH.2.2.2 s hs ho key hy).2
      have hlk : (∃ o, o < 4 ∧ o ≠ s ∧ qw_W wk (12 * o) key (wc o) = true) ↔ ∃ o, o < 4 ∧ o ≠ s ∧ op o = true ∧ qw_W wk (12 * o) key (yc o) = true := by
        constructor
        · rintro ⟨o, h1, h2, h3⟩
          cases e : op o
          · rw [((hS o h1).2.1 e).1] at h3
            exact absurd h3 (by simp [qw_W])
          · exact ⟨o, h1, h2, e, by rw [((hS o h1).2.2 e).1]; exact h3⟩
        · rintro ⟨o, h1, h2, e, h3⟩
          exact ⟨o, h1, h2, by rw [← ((hS o h1).2.2 e).1]; exact h3⟩
      have hY : ∀ (post : Int32 → SY → Prop), _ → _ → _ → wpY_write post (g, nI C, nI D, nI H, qn_F hc, qn_F hq, hv, qb_F ht, qn_F cs, cr, cw, qb_F kn, qb_F op, qb_F se, qn_F st, ry, qn_F yc, qn_F ys, qn_F wk, yv, qb_F yt, qn_F sv) (nI s) (nI key) v3 (qb_i b) := fun post a1 a2 a0 => my_write hs ho (fun o h4 e => by rw [((hS o h4).2.2 e).1]; exact f5 o h4) (fun o h4 e => by rw [((hS o h4).2.2 e).1]; exact f6 o h4) hy (by omega) (f7 s hs ho) f4 a1 a2 a0
      by_cases hL : ∃ o, o < 4 ∧ o ≠ s ∧ qw_W wk (12 * o) key (wc o) = true
      · refine mx_write hs ho f5 f6 hy (by omega) (f7 s hs ho) true ⟨fun _ => hL, fun _ => rfl⟩ (fun _ => ?_) (fun z => absurd z (by decide)) (fun z => absurd z (by decide)) (fun z => absurd z (by decide))
        exact hY _ (fun _ => ⟨rfl, i_up I0⟩) (fun z => absurd (hlk.mp hL) z) (fun z => absurd (hlk.mp hL) z)
      · have hL' := fun z => hL (hlk.mpr z)
        refine mx_write hs ho f5 f6 hy (by omega) (f7 s hs ho) false ⟨fun z => absurd z (by decide), fun z => absurd z hL⟩ (fun z => absurd z (by decide)) (fun _ hc1 => ?_) (fun _ hc1 hfull => ?_) (fun _ hc1 hroom => ?_)
        · exact hY _ (fun z => absurd z hL') (fun _ _ => ⟨rfl, i_mk (rl_Bend hs hB) (rl_Send hS) (rl_Hend hH) (rl_Pend hP)⟩) (fun _ z => absurd (hcf.mp hc1) z)
        · refine hY _ (fun z => absurd z hL') (fun _ z => absurd (hcf.mpr z) hc1) (fun _ _ => ⟨fun _ => ⟨rfl, i_up I0⟩, fun z => ?_⟩)
          have := f5 s hs
          omega
        · refine hY _ (fun z => absurd z hL') (fun _ z => absurd (hcf.mpr z) hc1) (fun _ _ => ⟨fun z => by omega, fun z => ⟨rfl, ?_⟩⟩)
          rw [eyc]
          refine i_mk ?_ (rl_Swrite hs hS ho hy hroom) hH hP
          obtain ⟨b1, b2, b3⟩ := hB
          have := qs_u (wc := wc) (v := wc s + 1) hs
          exact ⟨b1, by omega, by omega⟩
    · unfold wpX_write
      dsimp only
      refine wx_isOpenT hs ho (br_f (by decide) (mx _ (br_t rfl ?_)))
      unfold wpY_write
      dsimp only
      exact wy_isOpenT hs ho (br_f (by decide) (my _ (br_t rfl ⟨rfl, i_up I0⟩)))
  · unfold wpX_write
    dsimp only
    refine nx _ (br_t rfl ?_)
    unfold wpY_write
    dsimp only
    exact ny _ (br_t rfl ⟨rfl, i_up I0⟩)
theorem i_vc_save {k : Nat} {u : SX} {v : SY} (I : i_Rel k u v) (hk : k + 5 ≤ 2561) (v1 : Int32) : wpX_save (fun r u' => wpY_save (fun r' v' => r' = r ∧ i_Rel (k + 5) u' v') v v1) u v1 := by
  have I0 := I
  obtain ⟨g, C, D, H, ro, dr, sn, rx, wr, pr, pw, cr, cw, ry, lw, st, wc, wk, sc, sv, pn, hc, hq, cs, yc, ys, op, se, pO, pI, ht, kn, yt, hv, yv, rfl, rfl, hB, hS, hH, hP⟩ := I
  obtain ⟨f1, f2, f3, f4, f5, f6, f7, f8⟩ := rl_facts hB hk hS hH hP
  rcases wx_open v1 with ⟨s, hs, rfl, ho⟩ | ⟨nx, ny⟩
  · obtain ⟨eyc, eys, hsc, erx, hst, hsv, hmono, hwk⟩ := (hS s hs).2.2 ho
    refine mx_save hs ho hsc ⟨fun e => ?_, fun e => ?_⟩
    · refine my_save hs ho (by rw [eys]; exact hsc) ⟨fun e' => ⟨rfl, ?_⟩, fun e' => absurd (by rw [eys]; exact e) e'⟩
      rw [eyc, eys]
      exact i_mk (rl_Bup hB) (rl_Ssave hs hS ho e) hH hP
    · exact my_save hs ho (by rw [eys]; exact hsc) ⟨fun e' => absurd (by rw [← eys]; exact e') e, fun e' => ⟨rfl, i_up I0⟩⟩
  · unfold wpX_save
    dsimp only
    refine nx _ (br_t rfl ?_)
    unfold wpY_save
    dsimp only
    exact ny _ (br_t rfl ⟨rfl, i_up I0⟩)
theorem i_vc_undo {k : Nat} {u : SX} {v : SY} (I : i_Rel k u v) (hk : k + 5 ≤ 2561) (v1 : Int32) : wpX_undo (fun r u' => wpY_undo (fun r' v' => r' = r ∧ i_Rel (k + 5) u' v') v v1) u v1 := by
  have I0 := I
  obtain ⟨g, C, D, H, ro, dr, sn, rx, wr, pr, pw, cr, cw, ry, lw, st, wc, wk, sc, sv, pn, hc, hq, cs, yc, ys, op, se, pO, pI, ht, kn, yt, hv, yv, rfl, rfl, hB, hS, hH, hP⟩ := I
  obtain ⟨f1, f2, f3, f4, f5, f6, f7, f8⟩ := rl_facts hB hk hS hH hP
  rcases wx_open v1 with ⟨s, hs, rfl, ho⟩ | ⟨nx, ny⟩
  · obtain ⟨eyc, eys, hsc, erx, hst, hsv, hmono, hwk⟩ := (hS s hs).2.2 ho
    refine mx_undo hs ho hsc (fun e => ?_) (fun q e => ?_)
    · exact my_undo hs ho (by rw [eys]; exact hsc) (fun _ => ⟨rfl, i_up I0⟩) (fun q e' => by omega)
    · refine my_undo hs ho (by rw [eys]; exact hsc) (fun e' => by omega) (fun q' e' => ⟨rfl, ?_⟩)
      have hq' : q' = q := by omega
      subst hq'
      refine i_mk ?_ (rl_Sundo hS ho e) hH hP
      obtain ⟨b1, b2, b3⟩ := hB
      have h1 := qs_u (wc := wc) (v := sv (3 * s + q')) hs
      have h2 := hsv q' (by omega)
      exact ⟨b1, by omega, by omega⟩
  · unfold wpX_undo
    dsimp only
    refine nx _ (br_t rfl ?_)
    unfold wpY_undo
    dsimp only
    exact ny _ (br_t rfl ⟨rfl, i_up I0⟩)
theorem i_vc_rollback {k : Nat} {u : SX} {v : SY} (I : i_Rel k u v) (hk : k + 5 ≤ 2561) (v1 : Int32) : wpX_rollback (fun r u' => wpY_rollback (fun r' v' => r' = r ∧ i_Rel (k + 5) u' v') v v1) u v1 := by
  have I0 := I
  obtain ⟨g, C, D, H, ro, dr, sn, rx, wr, pr, pw, cr, cw, ry, lw, st, wc, wk, sc, sv, pn, hc, hq, cs, yc, ys, op, se, pO, pI, ht, kn, yt, hv, yv, rfl, rfl, hB, hS, hH, hP⟩ := I
  obtain ⟨f1, f2, f3, f4, f5, f6, f7, f8⟩ := rl_facts hB hk hS hH hP
  rcases wx_open v1 with ⟨s, hs, rfl, ho⟩ | ⟨nx, ny⟩
  · unfold wpX_rollback
    dsimp only
    refine wx_isOpenT hs ho (br_f (by decide) (wx_end hs ?_))
    dsimp only
    unfold wpY_rollback
    dsimp only
    refine wy_isOpenT hs ho (br_f (by decide) ?_)
    simp only [nI_clamp (show s < 2 ^ 31 by omega), qb_nar0, qb_U]
    exact ⟨vp_in_nI hs (by omega), nm_e ⟨by trivial, i_mk (rl_Bend hs hB) (rl_Send hS) (rl_Hend hH) (rl_Pend hP)⟩⟩
  · unfold wpX_rollback
    dsimp only
    refine nx _ (br_t rfl ?_)
    unfold wpY_rollback
    dsimp only
    exact ny _ (br_t rfl ⟨rfl, i_up I0⟩)
theorem i_vc_sync {k : Nat} {u : SX} {v : SY} (I : i_Rel k u v) (hk : k + 5 ≤ 2561) : wpX_sync (fun r u' => wpY_sync (fun r' v' => r' = r ∧ i_Rel (k + 5) u' v') v) u := by
  have I0 := I
  obtain ⟨g, C, D, H, ro, dr, sn, rx, wr, pr, pw, cr, cw, ry, lw, st, wc, wk, sc, sv, pn, hc, hq, cs, yc, ys, op, se, pO, pI, ht, kn, yt, hv, yv, rfl, rfl, hB, hS, hH, hP⟩ := I
  obtain ⟨f1, f2, f3, f4, f5, f6, f7, f8⟩ := rl_facts hB hk hS hH hP
  unfold wpX_sync
  dsimp only
  refine wx_md ?_
  dsimp only
  unfold wpY_sync
  dsimp only
  refine ⟨rfl, i_mk ?_ hS (rl_Hdur hH) hP⟩
  exact ⟨Nat.le_refl _, by have := hB.2.1; omega, by have := hB.2.2; omega⟩
theorem i_vc_crash {k : Nat} {u : SX} {v : SY} (I : i_Rel k u v) (hk : k + 5 ≤ 2561) : wpX_crash (fun r u' => wpY_crash (fun r' v' => r' = r ∧ i_Rel (k + 5) u' v') v) u := by
  have I0 := I
  obtain ⟨g, C, D, H, ro, dr, sn, rx, wr, pr, pw, cr, cw, ry, lw, st, wc, wk, sc, sv, pn, hc, hq, cs, yc, ys, op, se, pO, pI, ht, kn, yt, hv, yv, rfl, rfl, hB, hS, hH, hP⟩ := I
  obtain ⟨f1, f2, f3, f4, f5, f6, f7, f8⟩ := rl_facts hB hk hS hH hP
  refine wx_crash (wy_crash f1 (by omega) (by omega) (fun i hi => (f4 i hi).1) ⟨rfl, i_mk ?_ (rl_Scrash hS) (rl_Hcrash hH) (rl_Pcrash hP)⟩)
  obtain ⟨b1, b2, b3⟩ := hB
  have h1 := qc_le (fun i => decide (hc i ≤ D)) H
  have h2 : qs_S (qk_c wc (fun _ => 0) 0 4) = 0 := by
    rw [qs_S, qk_in0 (by omega), qk_in0 (by omega), qk_in0 (by omega), qk_in0 (by omega)]
  exact ⟨Nat.le_refl _, by omega, by omega⟩
theorem i_vc_row {k : Nat} {u : SX} {v : SY} (I : i_Rel k u v) (hk : k + 5 ≤ 2561) (v1 : Int32) : wpX_row (fun r => wpY_row (fun r' => r' = r ∧ i_Rel (k + 5) u v) v v1) u v1 := by
  have I0 := I
  obtain ⟨g, C, D, H, ro, dr, sn, rx, wr, pr, pw, cr, cw, ry, lw, st, wc, wk, sc, sv, pn, hc, hq, cs, yc, ys, op, se, pO, pI, ht, kn, yt, hv, yv, rfl, rfl, hB, hS, hH, hP⟩ := I
  obtain ⟨f1, f2, f3, f4, f5, f6, f7, f8⟩ := rl_facts hB hk hS hH hP
  rcases wx_key v1 with ⟨key, hy, rfl⟩ | ⟨mx, my⟩
  · unfold wpX_row
    dsimp only
    refine wx_isKeyT hy (br_f (by decide) ⟨vp_in_nI hy (by omega), ?_⟩)
    unfold wpY_row
    dsimp only
    refine wy_isKeyT hy (br_f (by decide) ?_)
    refine wy_after (by omega) (by omega) f4 hy ⟨?_, i_up I0⟩
    rw [nI_clamp (show key < 2 ^ 31 by omega)]
    exact (hH.2.2.1 key hy).1.symm
  · unfold wpX_row
    dsimp only
    refine mx _ (br_t rfl ?_)
    unfold wpY_row
    dsimp only
    exact my _ (br_t rfl ⟨rfl, i_up I0⟩)
theorem i_vc_seen {k : Nat} {u : SX} {v : SY} (I : i_Rel k u v) (hk : k + 5 ≤ 2561) (v1 : Int32) (v2 : Int32) : wpX_seen (fun r => wpY_seen (fun r' => r' = r ∧ i_Rel (k + 5) u v) v v1 v2) u v1 v2 := by
  have I0 := I
  obtain ⟨g, C, D, H, ro, dr, sn, rx, wr, pr, pw, cr, cw, ry, lw, st, wc, wk, sc, sv, pn, hc, hq, cs, yc, ys, op, se, pO, pI, ht, kn, yt, hv, yv, rfl, rfl, hB, hS, hH, hP⟩ := I
  obtain ⟨f1, f2, f3, f4, f5, f6, f7, f8⟩ := rl_facts hB hk hS hH hP
  rcases wx_open v1 with ⟨s, hs, rfl, ho⟩ | ⟨nx, ny⟩
  · rcases wx_key v2 with ⟨key, hy, rfl⟩ | ⟨mx, my⟩
    · obtain ⟨eyc, eys, hsc, erx, hst, hsv, hmono, hwk⟩ := (hS s hs).2.2 ho
      have hF := rl_F hs ho hS hH key hy
      refine mx_seen hs ho (f5 s hs) (f6 s hs) hy ⟨fun e => ?_, fun e => ?_⟩
      · refine my_seen hs ho (by rw [eyc]; exact f5 s hs) (by rw [eyc]; exact f6 s hs) hy (by omega) (f7 s hs ho) f4 ⟨fun _ => ⟨rfl, i_up I0⟩, fun e' => absurd (hF.symm.trans e) e'⟩
      · refine my_seen hs ho (by rw [eyc]; exact f5 s hs) (by rw [eyc]; exact f6 s hs) hy (by omega) (f7 s hs ho) f4 ⟨fun e' => absurd (hF.trans e') e, fun _ => ⟨rfl, i_up I0⟩⟩
    · unfold wpX_seen
      dsimp only
      refine wx_isOpenT hs ho (br_f (by decide) (mx _ (br_t rfl ?_)))
      unfold wpY_seen
      dsimp only
      exact wy_isOpenT hs ho (br_f (by decide) (my _ (br_t rfl ⟨rfl, i_up I0⟩)))
  · unfold wpX_seen
    dsimp only
    refine nx _ (br_t rfl ?_)
    unfold wpY_seen
    dsimp only
    exact ny _ (br_t rfl ⟨rfl, i_up I0⟩)
theorem i_vc_savepoints {k : Nat} {u : SX} {v : SY} (I : i_Rel k u v) (hk : k + 5 ≤ 2561) (v1 : Int32) : wpX_savepoints (fun r => wpY_savepoints (fun r' => r' = r ∧ i_Rel (k + 5) u v) v v1) u v1 := by
  have I0 := I
  obtain ⟨g, C, D, H, ro, dr, sn, rx, wr, pr, pw, cr, cw, ry, lw, st, wc, wk, sc, sv, pn, hc, hq, cs, yc, ys, op, se, pO, pI, ht, kn, yt, hv, yv, rfl, rfl, hB, hS, hH, hP⟩ := I
  obtain ⟨f1, f2, f3, f4, f5, f6, f7, f8⟩ := rl_facts hB hk hS hH hP
  rcases wx_open v1 with ⟨s, hs, rfl, ho⟩ | ⟨nx, ny⟩
  · obtain ⟨eyc, eys, hsc, erx, hst, hsv, hmono, hwk⟩ := (hS s hs).2.2 ho
    unfold wpX_savepoints
    dsimp only
    refine wx_isOpenT hs ho (br_f (by decide) ⟨vp_in_nI hs (by omega), ?_⟩)
    unfold wpY_savepoints
    dsimp only
    refine wy_isOpenT hs ho (br_f (by decide) ⟨vp_in_nI hs (by omega), ?_, i_up I0⟩)
    rw [nI_clamp (show s < 2 ^ 31 by omega), qn_at, qn_at, eys]
  · unfold wpX_savepoints
    dsimp only
    refine nx _ (br_t rfl ?_)
    unfold wpY_savepoints
    dsimp only
    exact ny _ (br_t rfl ⟨rfl, i_up I0⟩)
theorem i_vc_count {k : Nat} {u : SX} {v : SY} (I : i_Rel k u v) (hk : k + 5 ≤ 2561) (v1 : Int32) : wpX_count (fun r => wpY_count (fun r' => r' = r ∧ i_Rel (k + 5) u v) v v1) u v1 := by
  have I0 := I
  obtain ⟨g, C, D, H, ro, dr, sn, rx, wr, pr, pw, cr, cw, ry, lw, st, wc, wk, sc, sv, pn, hc, hq, cs, yc, ys, op, se, pO, pI, ht, kn, yt, hv, yv, rfl, rfl, hB, hS, hH, hP⟩ := I
  obtain ⟨f1, f2, f3, f4, f5, f6, f7, f8⟩ := rl_facts hB hk hS hH hP
  have hk0 : kn 0 = false := by
    cases e : kn 0
    · rfl
    · have := (hP.1 0 e).1
      omega
  unfold wpX_count
  dsimp only
  by_cases e0 : v1 = 0
  · subst e0
    refine br_t rfl ?_
    unfold wpY_count
    exact br_t rfl ⟨rfl, i_up I0⟩
  refine br_f e0 ?_
  by_cases e1 : v1 = 1
  · refine br_t e1 ?_
    unfold wpY_count
    exact br_f e0 (br_t e1 ⟨rfl, i_up I0⟩)
  refine br_f e1 ?_
  by_cases e2 : v1 = 2
  · refine br_t e2 (wx_tb f7 f8 ?_)
    unfold wpY_count
    dsimp only
    refine br_f e0 (br_f e1 (br_t e2 (wy_tr f1 f7 hk0 ⟨?_, i_up I0⟩)))
    rw [rl_trk hP]
  refine br_f e2 ?_
  by_cases e3 : v1 < 3
  · refine br_t e3 ?_
    unfold wpY_count
    exact br_f e0 (br_f e1 (br_f e2 (br_t e3 ⟨rfl, i_up I0⟩)))
  refine br_f e3 ?_
  have h0 : ¬ v1 < 0 := fun z => e3 (Int32.lt_trans z (by decide))
  obtain ⟨n, hn, rfl⟩ := nI_of h0
  rw [show (3 : Int32) = nI 3 from rfl, nI_ltI hn (by omega)] at e3
  by_cases e7 : 7 ≤ n
  · refine br_t (nI_le (a := 7) e7 hn) ?_
    unfold wpY_count
    exact br_f e0 (br_f e1 (br_f e2 (br_f (nI_nlt (b := 3) (by omega) hn) (br_f (nI_ge (b := n) (a := 6) (by omega) hn) ⟨rfl, i_up I0⟩))))
  · obtain ⟨s, rfl⟩ : ∃ s, n = s + 3 := ⟨n - 3, by omega⟩
    have hs : s < 4 := by omega
    have es : nI (s + 3) - 3 = nI s := by
      rw [show (3 : Int32) = nI 3 from rfl, pk_sub (by omega), Nat.add_sub_cancel]
    refine br_f (nI_ge (b := 7) (by omega) (by omega)) ?_
    rw [es]
    refine wx_wk hs (f5 s hs) (f6 s hs) ?_
    unfold wpY_count
    dsimp only
    rw [es]
    refine br_f e0 (br_f e1 (br_f e2 (br_f (nI_nlt (b := 3) (by omega) (by omega)) (br_t (nI_le (b := 6) (by omega) (by omega)) ⟨vp_in_nI hs (by omega), ?_⟩))))
    rw [nI_clamp (show s < 2 ^ 31 by omega), qb_at]
    refine qb_br (fun e => ⟨?_, i_up I0⟩) (fun e => ?_)
    · rw [((hS s hs).2.1 e).1, qc_0 (Q := fun key => qw_W wk (12 * s) key 0) 64 (fun j _ => rfl)]
      rfl
    · obtain ⟨eyc, eys, hsc, erx, hst, hsv, hmono, hwk⟩ := (hS s hs).2.2 e
      refine wy_writeSet hs (by rw [eyc]; exact f5 s hs) ⟨_, wy_ct64 _ _ 0 rfl ⟨?_, i_up I0⟩⟩
      rw [Nat.zero_add, qp_cnt, eyc]
      refine congrArg nI (qc_cg 64 (fun i hi => ?_))
      exact qw_bit hi (f6 s hs)
end
section
section
variable {g : Int32} {k C D H : Nat} {ro dr sn rx wr pr pw cr cw ry : Nat → Int64} {lw st wc wk sc sv pn hc hk cs yc ys : Nat → Nat} {op se pO pI ht kn yt : Nat → Bool} {hv yv : Nat → Int32}
theorem mx_co80 {post : Int32 → SX → Prop} {s : Nat} (hs : s < 4) (h : (nI C - nI D < g → post 0 (g, nI C, nI D, ro, dr, qn_F lw, qb_F (qu_p op s false), qb_F se, qn_F st, sn, qu_p rx s 0, qn_F (qu_p wc s 0), qn_F wk, wr, qn_F (qu_p sc s 0), qn_F sv, qn_F pn, pr, pw, qb_F pO, qb_F pI)) ∧ (¬ nI C - nI D < g → post 0 (g, nI C, nI C, ro, qk_c dr ro 0 64, qn_F lw, qb_F (qu_p op s false), qb_F se, qn_F st, sn, qu_p rx s 0, qn_F (qu_p wc s 0), qn_F wk, wr, qn_F (qu_p sc s 0), qn_F sv, qn_F pn, pr, pw, qb_F pO, qb_F pI))) : wX_commit_80 post (nI s) g (nI C) (nI D) ro dr (qn_F lw) (qb_F op) (qb_F se) (qn_F st) sn rx (qn_F wc) (qn_F wk) wr (qn_F sc) (qn_F sv) (qn_F pn) pr pw (qb_F pO) (qb_F pI) := by
  unfold wX_commit_80
  refine wx_end hs ?_
  dsimp only
  exact br_c (fun e => h.1 e) (fun e => wx_md (h.2 e))
theorem mx_co51 {post : Int32 → SX → Prop} {s : Nat} (hs : s < 4) (hw : wc s ≤ 12) (hp : ∀ p, p < wc s → wk (12 * s + p) < 64) (hse : se s = false) (h : (nI (C + 1) - nI D < g → post 0 (g, nI (C + 1), nI D, qr_R wk wr (12 * s) ro (wc s), dr, qn_F (qr_N wk (C + 1) (12 * s) lw (wc s)), qb_F (qu_p op s false), qb_F se, qn_F st, sn, qu_p rx s 0, qn_F (qu_p wc s 0), qn_F wk, wr, qn_F (qu_p sc s 0), qn_F sv, qn_F pn, pr, pw, qb_F pO, qb_F pI)) ∧ (¬ nI (C + 1) - nI D < g → post 0 (g, nI (C + 1), nI (C + 1), qr_R wk wr (12 * s) ro (wc s), qk_c dr (qr_R wk wr (12 * s) ro (wc s)) 0 64, qn_F (qr_N wk (C + 1) (12 * s) lw (wc s)), qb_F (qu_p op s false), qb_F se, qn_F st, sn, qu_p rx s 0, qn_F (qu_p wc s 0), qn_F wk, wr, qn_F (qu_p sc s 0), qn_F sv, qn_F pn, pr, pw, qb_F pO, qb_F pI))) : wX_commit_51 post (nI s) g (nI C) (nI D) ro dr (qn_F lw) (qb_F op) (qb_F se) (qn_F st) sn rx (qn_F wc) (qn_F wk) wr (qn_F sc) (qn_F sv) (qn_F pn) pr pw (qb_F pO) (qb_F pI) := by
  unfold wX_commit_51
  refine nm_r (nI_1 C) ?_
  refine wx_ap hs hw hp ?_
  dsimp only
  refine ⟨vp_in_nI hs (by omega), br_t ?_ (mx_co80 hs h)⟩
  rw [nI_clamp (show s < 2 ^ 31 by omega), qb_at, hse]
  rfl
theorem mx_co51s {post : Int32 → SX → Prop} {s : Nat} (hs : s < 4) (ho : op s = true) (hw : wc s ≤ 12) (hp : ∀ p, p < wc s → wk (12 * s + p) < 64) (hse : se s = true) (h1 : ∀ s, s < 4 → op s = true → st s < 2 ^ 31) (h2 : ∀ i, i < 8 → pn i < 2 ^ 31) (hx : ∃ f, f < 8 ∧ qt_K op se st (nI s) (pn f) = false) (h : ∀ f, f < 8 → qt_K op se st (nI s) (pn f) = false → (nI (C + 1) - nI D < g → post 0 (g, nI (C + 1), nI D, qr_R wk wr (12 * s) ro (wc s), dr, qn_F (qr_N wk (C + 1) (12 * s) lw (wc s)), qb_F (qu_p op s false), qb_F se, qn_F st, sn, qu_p rx s 0, qn_F (qu_p wc s 0), qn_F wk, wr, qn_F (qu_p sc s 0), qn_F sv, qn_F (qu_p pn f (C + 1)), qu_p pr f (rx s), qu_p pw f (qm_s wk (12 * s) (wc s)), qb_F (qu_p (qf_m pO (qt_R st pn pr (qm_s wk (12 * s) (wc s)) s) 8) f (qe_x (qt_T st pn rx pw s) 8)), qb_F (qu_p (qf_m pI (qt_T st pn rx pw s) 8) f (qe_x (qt_R st pn pr (qm_s wk (12 * s) (wc s)) s) 8)))) ∧ (¬ nI (C + 1) - nI D < g → post 0 (g, nI (C + 1), nI (C + 1), qr_R wk wr (12 * s) ro (wc s), qk_c dr (qr_R wk wr (12 * s) ro (wc s)) 0 64, qn_F (qr_N wk (C + 1) (12 * s) lw (wc s)), qb_F (qu_p op s false), qb_F se, qn_F st, sn, qu_p rx s 0, qn_F (qu_p wc s 0), qn_F wk, wr, qn_F (qu_p sc s 0), qn_F sv, qn_F (qu_p pn f (C + 1)), qu_p pr f (rx s), qu_p pw f (qm_s wk (12 * s) (wc s)), qb_F (qu_p (qf_m pO (qt_R st pn pr (qm_s wk (12 * s) (wc s)) s) 8) f (qe_x (qt_T st pn rx pw s) 8)), qb_F (qu_p (qf_m pI (qt_T st pn rx pw s) 8) f (qe_x (qt_R st pn pr (qm_s wk (12 * s) (wc s)) s) 8))))) : wX_commit_51 post (nI s) g (nI C) (nI D) ro dr (qn_F lw) (qb_F op) (qb_F se) (qn_F st) sn rx (qn_F wc) (qn_F wk) wr (qn_F sc) (qn_F sv) (qn_F pn) pr pw (qb_F pO) (qb_F pI) := by
  unfold wX_commit_51
  refine nm_r (nI_1 C) ?_
  refine wx_ap hs hw hp ?_
  dsimp only
  refine ⟨vp_in_nI hs (by omega), br_f ?_ ?_⟩
  · rw [nI_clamp (show s < 2 ^ 31 by omega), qb_at, hse]
    decide
  · refine wx_rem hs hw h1 ho h2 hx (fun f hf e => ?_)
    dsimp only
    exact mx_co80 hs (h f hf e)
theorem mx_commit0 {post : Int32 → SX → Prop} {s : Nat} (hs : s < 4) (ho : op s = true) (hse : se s = false) (h : wX_commit_51 post (nI s) g (nI C) (nI D) ro dr (qn_F lw) (qb_F op) (qb_F se) (qn_F st) sn rx (qn_F wc) (qn_F wk) wr (qn_F sc) (qn_F sv) (qn_F pn) pr pw (qb_F pO) (qb_F pI)) : wpX_commit post (g, nI C, nI D, ro, dr, qn_F lw, qb_F op, qb_F se, qn_F st, sn, rx, qn_F wc, qn_F wk, wr, qn_F sc, qn_F sv, qn_F pn, pr, pw, qb_F pO, qb_F pI) (nI s) := by
  unfold wpX_commit
  dsimp only
  refine wx_isOpenT hs ho (br_f (by decide) ⟨vp_in_nI hs (by omega), br_t ?_ h⟩)
  rw [nI_clamp (show s < 2 ^ 31 by omega), qb_at, hse]
  rfl
theorem mx_commit1 {post : Int32 → SX → Prop} {s : Nat} (hs : s < 4) (ho : op s = true) (hse : se s = true) (hw : wc s ≤ 12) (h1 : ∀ s, s < 4 → op s = true → st s < 2 ^ 31) (h2 : ∀ i, i < 8 → pn i < 2 ^ 31) (r : Bool) (hr : r = true ↔ (∃ i, i < 8 ∧ qt_T st pn rx pw s i = true ∧ pO i = true) ∨ (∃ i, i < 8 ∧ qt_R st pn pr (qm_s wk (12 * s) (wc s)) s i = true ∧ pI i = true) ∨ ((∃ i, i < 8 ∧ qt_T st pn rx pw s i = true) ∧ (∃ i, i < 8 ∧ qt_R st pn pr (qm_s wk (12 * s) (wc s)) s i = true))) (h3 : r = true → post 3 (g, nI C, nI D, ro, dr, qn_F lw, qb_F (qu_p op s false), qb_F se, qn_F st, sn, qu_p rx s 0, qn_F (qu_p wc s 0), qn_F wk, wr, qn_F (qu_p sc s 0), qn_F sv, qn_F pn, pr, pw, qb_F pO, qb_F pI)) (h4 : r = false → ¬ qc_c (fun i => qt_K op se st (nI s) (pn i)) 8 < 8 → post 4 (g, nI C, nI D, ro, dr, qn_F lw, qb_F (qu_p op s false), qb_F se, qn_F st, sn, qu_p rx s 0, qn_F (qu_p wc s 0), qn_F wk, wr, qn_F (qu_p sc s 0), qn_F sv, qn_F pn, pr, pw, qb_F pO, qb_F pI)) (h0 : r = false → qc_c (fun i => qt_K op se st (nI s) (pn i)) 8 < 8 → wX_commit_51 post (nI s) g (nI C) (nI D) ro dr (qn_F lw) (qb_F op) (qb_F se) (qn_F st) sn rx (qn_F wc) (qn_F wk) wr (qn_F sc) (qn_F sv) (qn_F pn) pr pw (qb_F pO) (qb_F pI)) : wpX_commit post (g, nI C, nI D, ro, dr, qn_F lw, qb_F op, qb_F se, qn_F st, sn, rx, qn_F wc, qn_F wk, wr, qn_F sc, qn_F sv, qn_F pn, pr, pw, qb_F pO, qb_F pI) (nI s) := by
  unfold wpX_commit
  dsimp only
  refine wx_isOpenT hs ho (br_f (by decide) ⟨vp_in_nI hs (by omega), br_f ?_ ?_⟩)
  · rw [nI_clamp (show s < 2 ^ 31 by omega), qb_at, hse]
    decide
  · refine wx_join hs hw (h1 s hs ho) h2 r hr ?_
    refine qb_br (fun e => ?_) (fun e => wx_end hs (h3 e))
    refine wx_tb h1 h2 ?_
    have hle := qc_le (fun i => qt_K op se st (nI s) (pn i)) 8
    exact pk_lt (qc_c (fun i => qt_K op se st (nI s) (pn i)) 8) 8 (fun e2 => h0 e e2) (fun e2 => wx_end hs (h4 e (by omega)))
theorem my_commit0 {post : Int32 → SY → Prop} {s : Nat} (hs : s < 4) (ho : op s = true) (hse : se s = false) (hw : yc s ≤ 12) (hC : C < 512) (hH : H + yc s ≤ 520) (h : (nI (C + 1) - nI D < g → post 0 (g, nI (C + 1), nI D, nI (H + yc s), qn_F (qk_c hc (fun _ => C + 1) H (yc s)), qn_F (qk_c hk (fun q => wk (12 * s + q)) H (yc s)), qk_c hv (fun q => yv (12 * s + q)) H (yc s), qb_F (qk_c ht (fun q => yt (12 * s + q)) H (yc s)), qn_F (qu_p cs (C + 1) (st s)), qu_p cr (C + 1) (ry s), qu_p cw (C + 1) (qm_s wk (12 * s) (yc s)), qb_F (qu_p kn (C + 1) (se s)), qb_F (qu_p op s false), qb_F se, qn_F st, ry, qn_F yc, qn_F ys, qn_F wk, yv, qb_F yt, qn_F sv)) ∧ (¬ nI (C + 1) - nI D < g → post 0 (g, nI (C + 1), nI (C + 1), nI (H + yc s), qn_F (qk_c hc (fun _ => C + 1) H (yc s)), qn_F (qk_c hk (fun q => wk (12 * s + q)) H (yc s)), qk_c hv (fun q => yv (12 * s + q)) H (yc s), qb_F (qk_c ht (fun q => yt (12 * s + q)) H (yc s)), qn_F (qu_p cs (C + 1) (st s)), qu_p cr (C + 1) (ry s), qu_p cw (C + 1) (qm_s wk (12 * s) (yc s)), qb_F (qu_p kn (C + 1) (se s)), qb_F (qu_p op s false), qb_F se, qn_F st, ry, qn_F yc, qn_F ys, qn_F wk, yv, qb_F yt, qn_F sv))) : wpY_commit post (g, nI C, nI D, nI H, qn_F hc, qn_F hk, hv, qb_F ht, qn_F cs, cr, cw, qb_F kn, qb_F op, qb_F se, qn_F st, ry, qn_F yc, qn_F ys, qn_F wk, yv, qb_F yt, qn_F sv) (nI s) := by
  unfold wpY_commit
  dsimp only
  refine wy_isOpenT hs ho (br_f (by decide) (nm_r (nI_1 C) ?_))
  have hs4 : vp_in (nI s) 4 := vp_in_nI hs (by omega)
  have hn5 : vp_in (nI (C + 1)) 520 := vp_in_nI (by omega) (by omega)
  simp only [nI_clamp (show s < 2 ^ 31 by omega), nI_clamp (show C + 1 < 2 ^ 31 by omega), qn_at, qb_at, qb_nar0, qb_nar, qb_U, qn_U, qu_L]
  refine ⟨hs4, nm_e ⟨hs4, hn5, nm_e ⟨hs4, hn5, nm_e (wy_writeSet hs hw ?_)⟩⟩⟩
  refine ⟨hn5, nm_e ⟨hs4, hn5, nm_e ⟨hs4, br_t (by rw [hse]; rfl) ?_⟩⟩⟩
  refine nm_r (qi_12' s) ⟨yc s + 1, ?_⟩
  have hl := wy_co125 (C := C) hs hw hH h (yc s) 0 (by omega)
  rw [qk_0, qk_0, qk_0, qk_0] at hl
  exact hl
theorem my_commit1 {post : Int32 → SY → Prop} {s : Nat} (hs : s < 4) (ho : op s = true) (hse : se s = true) (hw : yc s ≤ 12) (hC : C < 512) (hH : H + yc s ≤ 520) (h1 : ∀ o, o < 4 → op o = true → st o < 2 ^ 31) (hkn : ∀ j, kn j = true → 1 ≤ j ∧ j ≤ C ∧ cs j < j) (h3 : (∃ m, qr_D (qu_p cs (C + 1) (st s)) (qu_p cr (C + 1) (ry s)) (qu_p cw (C + 1) (qm_s wk (12 * s) (yc s))) (qu_p kn (C + 1) true) (C + 1) m) → post 3 (g, nI C, nI D, nI H, qn_F hc, qn_F hk, hv, qb_F ht, qn_F (qu_p cs (C + 1) (st s)), qu_p cr (C + 1) (ry s), qu_p cw (C + 1) (qm_s wk (12 * s) (yc s)), qb_F (qu_p (qu_p kn (C + 1) true) (C + 1) false), qb_F (qu_p op s false), qb_F se, qn_F st, ry, qn_F yc, qn_F ys, qn_F wk, yv, qb_F yt, qn_F sv)) (h4 : ¬ (∃ m, qr_D (qu_p cs (C + 1) (st s)) (qu_p cr (C + 1) (ry s)) (qu_p cw (C + 1) (qm_s wk (12 * s) (yc s))) (qu_p kn (C + 1) true) (C + 1) m) → ¬ qc_c (fun j => qu_p kn (C + 1) true j && qt_K (qu_p op s false) se st (nI s) j) (C + 1) < 8 → post 4 (g, nI C, nI D, nI H, qn_F hc, qn_F hk, hv, qb_F ht, qn_F (qu_p cs (C + 1) (st s)), qu_p cr (C + 1) (ry s), qu_p cw (C + 1) (qm_s wk (12 * s) (yc s)), qb_F (qu_p (qu_p kn (C + 1) true) (C + 1) false), qb_F (qu_p op s false), qb_F se, qn_F st, ry, qn_F yc, qn_F ys, qn_F wk, yv, qb_F yt, qn_F sv)) (h : ¬ (∃ m, qr_D (qu_p cs (C + 1) (st s)) (qu_p cr (C + 1) (ry s)) (qu_p cw (C + 1) (qm_s wk (12 * s) (yc s))) (qu_p kn (C + 1) true) (C + 1) m) → qc_c (fun j => qu_p kn (C + 1) true j && qt_K (qu_p op s false) se st (nI s) j) (C + 1) < 8 → (nI (C + 1) - nI D < g → post 0 (g, nI (C + 1), nI D, nI (H + yc s), qn_F (qk_c hc (fun _ => C + 1) H (yc s)), qn_F (qk_c hk (fun q => wk (12 * s + q)) H (yc s)), qk_c hv (fun q => yv (12 * s + q)) H (yc s), qb_F (qk_c ht (fun q => yt (12 * s + q)) H (yc s)), qn_F (qu_p cs (C + 1) (st s)), qu_p cr (C + 1) (ry s), qu_p cw (C + 1) (qm_s wk (12 * s) (yc s)), qb_F (qu_p kn (C + 1) true), qb_F (qu_p op s false), qb_F se, qn_F st, ry, qn_F yc, qn_F ys, qn_F wk, yv, qb_F yt, qn_F sv)) ∧ (¬ nI (C + 1) - nI D < g → post 0 (g, nI (C + 1), nI (C + 1), nI (H + yc s), qn_F (qk_c hc (fun _ => C + 1) H (yc s)), qn_F (qk_c hk (fun q => wk (12 * s + q)) H (yc s)), qk_c hv (fun q => yv (12 * s + q)) H (yc s), qb_F (qk_c ht (fun q => yt (12 * s + q)) H (yc s)), qn_F (qu_p cs (C + 1) (st s)), qu_p cr (C + 1) (ry s), qu_p cw (C + 1) (qm_s wk (12 * s) (yc s)), qb_F (qu_p kn (C + 1) true), qb_F (qu_p op s false), qb_F se, qn_F st, ry, qn_F yc, qn_F ys, qn_F wk, yv, qb_F yt, qn_F sv))) : wpY_commit post (g, nI C, nI D, nI H, qn_F hc, qn_F hk, hv, qb_F ht, qn_F cs, cr, cw, qb_F kn, qb_F op, qb_F se, qn_F st, ry, qn_F yc, qn_F ys, qn_F wk, yv, qb_F yt, qn_F sv) (nI s) := by
  have hkn' : ∀ i, qu_p kn (C + 1) true i = true → 1 ≤ i ∧ i ≤ C + 1 := fun i hi => by
    by_cases c : i = C + 1
    · omega
    · rw [qu_n c] at hi
      have := hkn i hi
      omega
  have hcs' : ∀ i, qu_p kn (C + 1) true i = true → qu_p cs (C + 1) (st s) i < 2 ^ 31 := fun i hi => by
    by_cases c : i = C + 1
    · rw [c, qu_s]
      exact h1 s hs ho
    · rw [qu_n c] at hi
      rw [qu_n c]
      have := hkn i hi
      omega
  have h0' : qu_p kn (C + 1) true 0 = false := by
    cases e : qu_p kn (C + 1) true 0
    · rfl
    · have := (hkn' 0 e).1
      omega
  unfold wpY_commit
  dsimp only
  refine wy_isOpenT hs ho (br_f (by decide) (nm_r (nI_1 C) ?_))
  have hs4 : vp_in (nI s) 4 := vp_in_nI hs (by omega)
  have hn5 : vp_in (nI (C + 1)) 520 := vp_in_nI (by omega) (by omega)
  simp only [nI_clamp (show s < 2 ^ 31 by omega), nI_clamp (show C + 1 < 2 ^ 31 by omega), qn_at, qb_at, qb_nar0, qb_nar, qb_U, qn_U, qu_L, hse]
  refine ⟨hs4, nm_e ⟨hs4, hn5, nm_e ⟨hs4, hn5, nm_e (wy_writeSet hs hw ?_)⟩⟩⟩
  refine ⟨hn5, nm_e ⟨hs4, hn5, nm_e ⟨hs4, br_f (by decide) ?_⟩⟩⟩
  have bad : ∀ z : Int32, ¬ z = 0 → post z (g, nI C, nI D, nI H, qn_F hc, qn_F hk, hv, qb_F ht, qn_F (qu_p cs (C + 1) (st s)), qu_p cr (C + 1) (ry s), qu_p cw (C + 1) (qm_s wk (12 * s) (yc s)), qb_F (qu_p (qu_p kn (C + 1) true) (C + 1) false), qb_F (qu_p op s false), qb_F se, qn_F st, ry, qn_F yc, qn_F ys, qn_F wk, yv, qb_F yt, qn_F sv) → wY_commit_106 post (nI s) (nI (C + 1)) z g (nI C) (nI D) (nI H) (qn_F hc) (qn_F hk) hv (qb_F ht) (qn_F (qu_p cs (C + 1) (st s))) (qu_p cr (C + 1) (ry s)) (qu_p cw (C + 1) (qm_s wk (12 * s) (yc s))) (qb_F (qu_p kn (C + 1) true)) (qb_F (qu_p op s false)) (qb_F se) (qn_F st) ry (qn_F yc) (qn_F ys) (qn_F wk) yv (qb_F yt) (qn_F sv) := fun z hz hq => by
    unfold wY_commit_106
    simp only [nI_clamp (show C + 1 < 2 ^ 31 by omega), qb_nar0, qb_U]
    exact br_f hz ⟨hn5, nm_e hq⟩
  refine wy_da hC hcs' hkn' (fun a => br_f (by decide) (bad 3 (by decide) (h3 a))) (fun a => br_t rfl ?_)
  refine wy_tr hC (fun o h4 e => h1 o h4 (qu_off e).2) h0' ?_
  have hle := qc_le (fun j => qu_p kn (C + 1) true j && qt_K (qu_p op s false) se st (nI s) j) (C + 1)
  refine pk_lt (qc_c (fun j => qu_p kn (C + 1) true j && qt_K (qu_p op s false) se st (nI s) j) (C + 1)) 8 (fun e => ?_) (fun e => bad 4 (by decide) (h4 a (by omega)))
  unfold wY_commit_106
  refine br_t rfl (nm_r (qi_12' s) ⟨yc s + 1, ?_⟩)
  have hl := wy_co125 (C := C) hs hw hH (h a e) (yc s) 0 (by omega)
  rw [qk_0, qk_0, qk_0, qk_0] at hl
  exact hl
end
end
section
theorem rl_ko {op se : Nat → Bool} {st : Nat → Nat} {s j : Nat} (hs : s < 4) : qt_K (qu_p op s false) se st (nI s) j = qt_K op se st (nI s) j := by
  rw [Bool.eq_iff_iff, qt_iff, qt_iff]
  constructor
  · rintro ⟨o, h1, h2, h3, h4⟩
    exact ⟨o, h1, h2, (qu_off h3).2, h4⟩
  · rintro ⟨o, h1, h2, h3, h4⟩
    have : o ≠ s := fun z => h2 (by rw [z])
    exact ⟨o, h1, h2, by rw [qu_n this]; exact h3, h4⟩
theorem i_vc_commit {k : Nat} {u : SX} {v : SY} (I : i_Rel k u v) (hk : k + 5 ≤ 2561) (v1 : Int32) : wpX_commit (fun r u' => wpY_commit (fun r' v' => r' = r ∧ i_Rel (k + 5) u' v') v v1) u v1 := by
  have I0 := I
  obtain ⟨g, C, D, H, ro, dr, sn, rx, wr, pr, pw, cr, cw, ry, lw, st, wc, wk, sc, sv, pn, hc, hq, cs, yc, ys, op, se, pO, pI, ht, kn, yt, hv, yv, rfl, rfl, hB, hS, hH, hP⟩ := I
  obtain ⟨f1, f2, f3, f4, f5, f6, f7, f8⟩ := rl_facts hB hk hS hH hP
  rcases wx_open v1 with ⟨s, hs, rfl, ho⟩ | ⟨nx, ny⟩
  · obtain ⟨eyc, eys, hsc, erx, hst, hsv, hmono, hwk⟩ := (hS s hs).2.2 ho
    have hge := qs_ge (wc := wc) hs
    have hn : kn (C + 1) = false := by
      cases e : kn (C + 1)
      · rfl
      · have := (hP.1 _ e).2.1
        omega
    have hK : ∀ j, qu_p kn (C + 1) false j = kn j := fun j => by
      by_cases c : j = C + 1
      · rw [c, qu_s, hn]
      · rw [qu_n c]
    have hcs : ∀ (w : Int64) j, j ≤ C → qu_p cs (C + 1) (st s) j = cs j ∧ qu_p cr (C + 1) (rx s) j = cr j ∧ qu_p cw (C + 1) w j = cw j := fun w j hj => ⟨qu_n (by omega), qu_n (by omega), qu_n (by omega)⟩
    have hS' := rl_SC (C' := C + 1) (by omega) (rl_Send (s := s) hS)
    have hH' := rl_Hcommit hs (fun o h4 e => ((hS o h4).2.2 e).2.2.2.2.1) f3 hwk hH
    have hB1 : rl_B (k + 5) (C + 1) D (H + wc s) (qu_p wc s 0) := by
      obtain ⟨b1, b2, b3⟩ := hB
      have := qs_u (wc := wc) (v := 0) hs
      exact ⟨by omega, by omega, by omega⟩
    have hB2 : rl_B (k + 5) (C + 1) (C + 1) (H + wc s) (qu_p wc s 0) := ⟨Nat.le_refl _, hB1.2.1, hB1.2.2⟩
    cases hse : se s
    · have hP' : rl_P (C + 1) (qu_p op s false) se st pn pr pw pO pI (qu_p cs (C + 1) (st s)) (qu_p cr (C + 1) (rx s)) (qu_p cw (C + 1) (qm_s wk (12 * s) (wc s))) (qu_p kn (C + 1) false) := rl_Pend (rl_Pkeep (by omega) hK (hcs _) hP)
      refine mx_commit0 hs ho hse (mx_co51 hs (f5 s hs) (f6 s hs) hse ⟨fun e => ?_, fun e => ?_⟩)
      · refine my_commit0 hs ho hse (by rw [eyc]; exact f5 s hs) f1 (by omega) ⟨fun _ => ⟨rfl, ?_⟩, fun z => absurd e z⟩
        rw [eyc, ← erx, hse]
        exact i_mk hB1 hS' hH' hP'
      · refine my_commit0 hs ho hse (by rw [eyc]; exact f5 s hs) f1 (by omega) ⟨fun z => absurd z e, fun _ => ⟨rfl, ?_⟩⟩
        rw [eyc, ← erx, hse]
        exact i_mk hB2 hS' (rl_Hdur hH') hP'
    · have hD := rl_dang (rx := rx) (w := qm_s wk (12 * s) (wc s)) hs ho hse hP
      have hT : qc_c (fun i => qt_K op se st (nI s) (pn i)) 8 = qc_c (fun j => qu_p kn (C + 1) true j && qt_K (qu_p op s false) se st (nI s) j) (C + 1) := by
        rw [rl_trk hP]
        refine qc_cg (C + 1) (fun j hj => ?_)
        show (kn j && qt_K op se st (nI s) j) = (qu_p kn (C + 1) true j && qt_K (qu_p op s false) se st (nI s) j)
        rw [qu_n (by omega), rl_ko hs]
      have hPf : rl_P C (qu_p op s false) se st pn pr pw pO pI (qu_p cs (C + 1) (st s)) (qu_p cr (C + 1) (rx s)) (qu_p cw (C + 1) (qm_s wk (12 * s) (wc s))) (qu_p (qu_p kn (C + 1) true) (C + 1) false) := by
        rw [qu_qu]
        exact rl_Pend (rl_Pkeep (Nat.le_refl _) hK (hcs _) hP)
      by_cases hJ : (∃ i, i < 8 ∧ qt_T st pn rx pw s i = true ∧ pO i = true) ∨ (∃ i, i < 8 ∧ qt_R st pn pr (qm_s wk (12 * s) (wc s)) s i = true ∧ pI i = true) ∨ ((∃ i, i < 8 ∧ qt_T st pn rx pw s i = true) ∧ (∃ i, i < 8 ∧ qt_R st pn pr (qm_s wk (12 * s) (wc s)) s i = true))
      · refine mx_commit1 hs ho hse (f5 s hs) f7 f8 true ⟨fun _ => hJ, fun _ => rfl⟩ (fun _ => ?_) (fun z => absurd z (by decide)) (fun z => absurd z (by decide))
        refine my_commit1 hs ho hse (by rw [eyc]; exact f5 s hs) f1 (by omega) f7 hP.1 (fun _ => ⟨rfl, ?_⟩) (fun a => ?_) (fun a => ?_)
        · rw [eyc, ← erx]
          exact i_mk (rl_Bend hs hB) (rl_Send hS) (rl_Hend hH) hPf
        · rw [eyc, ← erx] at a
          exact absurd (hD.mpr hJ) a
        · rw [eyc, ← erx] at a
          exact absurd (hD.mpr hJ) a
      · refine mx_commit1 hs ho hse (f5 s hs) f7 f8 false ⟨fun z => absurd z (by decide), fun z => absurd z hJ⟩ (fun z => absurd z (by decide)) (fun _ hfull => ?_) (fun _ hroom => ?_)
        · refine my_commit1 hs ho hse (by rw [eyc]; exact f5 s hs) f1 (by omega) f7 hP.1 (fun a => ?_) (fun _ _ => ⟨rfl, ?_⟩) (fun _ z => ?_)
          · rw [eyc, ← erx] at a
            exact absurd (hD.mp a) hJ
          · rw [eyc, ← erx]
            exact i_mk (rl_Bend hs hB) (rl_Send hS) (rl_Hend hH) hPf
          · rw [← hT] at z
            exact absurd z hfull
        · refine mx_co51s hs ho (f5 s hs) (f6 s hs) hse f7 f8 (rl_free hroom) (fun f hf hfree => ?_)
          have hPc := rl_Pcommit (rx := rx) (w := qm_s wk (12 * s) (wc s)) hs ho hse hf hfree hst hP
          refine ⟨fun e => ?_, fun e => ?_⟩
          · refine my_commit1 hs ho hse (by rw [eyc]; exact f5 s hs) f1 (by omega) f7 hP.1 (fun a => ?_) (fun _ z => ?_) (fun _ _ => ⟨fun _ => ⟨rfl, ?_⟩, fun z => absurd e z⟩)
            · rw [eyc, ← erx] at a
              exact absurd (hD.mp a) hJ
            · rw [← hT] at z
              exact absurd hroom z
            · rw [eyc, ← erx]
              exact i_mk hB1 hS' hH' hPc
          · refine my_commit1 hs ho hse (by rw [eyc]; exact f5 s hs) f1 (by omega) f7 hP.1 (fun a => ?_) (fun _ z => ?_) (fun _ _ => ⟨fun z => absurd z e, fun _ => ⟨rfl, ?_⟩⟩)
            · rw [eyc, ← erx] at a
              exact absurd (hD.mp a) hJ
            · rw [← hT] at z
              exact absurd hroom z
            · rw [eyc, ← erx]
              exact i_mk hB2 hS' (rl_Hdur hH') hPc
  · unfold wpX_commit
    dsimp only
    refine nx _ (br_t rfl ?_)
    unfold wpY_commit
    dsimp only
    exact ny _ (br_t rfl ⟨rfl, i_up I0⟩)
end
