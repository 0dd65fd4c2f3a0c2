section
theorem pk_us {f : Nat → Int32} {k : Nat} {x : Int32} : upd f k x k = x := if_pos rfl
theorem pk_un {f : Nat → Int32} {k j : Nat} {x : Int32} (h : j ≠ k) : upd f k x j = f j := if_neg h
theorem pk_uLs {f : Nat → Int64} {k : Nat} {x : Int64} : vp_updL f k x k = x := if_pos rfl
theorem pk_uLn {f : Nat → Int64} {k j : Nat} {x : Int64} (h : j ≠ k) : vp_updL f k x j = f j := if_neg h
theorem pk_sub {a b : Nat} (h : b ≤ a) : nI a - nI b = nI (a - b) := by
  obtain ⟨c, rfl⟩ : ∃ c, a = c + b := ⟨a - b, by omega⟩
  rw [← nI_add, Int32.add_sub_cancel, Nat.add_sub_cancel]
theorem pk_m1 (n : Nat) : nI (n + 1) + (-1) = nI n := by
  rw [← nI_1, Int32.add_assoc, show (1 : Int32) + (-1) = 0 from rfl, Int32.add_zero]
theorem pk_mul (a b : Nat) : nI a * nI b = nI (a * b) := (Int32.ofNat_mul a b).symm
theorem pk_ix (x : Int32) {n : Nat} (hn : n < 2 ^ 31) : x < 0 ∨ nI n ≤ x ∨ ∃ j : Nat, j < n ∧ x = nI j := by
  by_cases h : x < 0
  · exact Or.inl h
  · obtain ⟨j, hj, rfl⟩ := nI_of h
    by_cases h2 : j < n
    · exact Or.inr (Or.inr ⟨j, h2, rfl⟩)
    · exact Or.inr (Or.inl (nI_le (by omega) hj))
theorem pk_le {x y : Int32} {A B : Prop} (a b : Nat) (f : a ≤ b → A) (g : b < a → B) (hx : x = nI a := by rfl) (hy : y = nI b := by rfl) (ha : a < 2 ^ 31 := by omega) (hb : b < 2 ^ 31 := by omega) : (x ≤ y → A) ∧ (¬ x ≤ y → B) := by
  subst hx hy
  rw [nI_leI ha hb]
  exact ⟨f, fun z => g (by omega)⟩
theorem pk_lt {x y : Int32} {A B : Prop} (a b : Nat) (f : a < b → A) (g : b ≤ a → B) (hx : x = nI a := by rfl) (hy : y = nI b := by rfl) (ha : a < 2 ^ 31 := by omega) (hb : b < 2 ^ 31 := by omega) : (x < y → A) ∧ (¬ x < y → B) := by
  subst hx hy
  rw [nI_ltI ha hb]
  exact ⟨f, fun z => g (by omega)⟩
theorem pk_eq {x y : Int32} {A B : Prop} (a b : Nat) (f : a = b → A) (g : a ≠ b → B) (hx : x = nI a := by rfl) (hy : y = nI b := by rfl) (ha : a < 2 ^ 31 := by omega) (hb : b < 2 ^ 31 := by omega) : (x = y → A) ∧ (¬ x = y → B) := by
  subst hx hy
  rw [nI_eq ha hb]
  exact ⟨f, g⟩
theorem pk_in {x : Int32} (n N : Nat) (h : n < N) (hx : x = nI n := by rfl) (hN : N < 2 ^ 31 := by omega) : vp_in x N := by
  subst hx
  exact vp_in_nI h hN
theorem pk_cl {x : Int32} (n : Nat) (hx : x = nI n := by rfl) (h : n < 2 ^ 31 := by omega) : x.toNatClampNeg = n := by
  subst hx
  exact nI_clamp h
/-! my own pure rows -/
def qu_p {α : Type} (f : Nat → α) (k : Nat) (x : α) : Nat → α := fun j => if j = k then x else f j
theorem qu_s {α : Type} {f : Nat → α} {k : Nat} {x : α} : qu_p f k x k = x := if_pos rfl
theorem qu_n {α : Type} {f : Nat → α} {k j : Nat} {x : α} (h : j ≠ k) : qu_p f k x j = f j := if_neg h
theorem qu_L {f : Nat → Int64} {k : Nat} {x : Int64} : vp_updL f k x = qu_p f k x := rfl
theorem qu_I {f : Nat → Int32} {k : Nat} {x : Int32} : upd f k x = qu_p f k x := rfl
def qn_F (f : Nat → Nat) : Nat → Int32 := fun i => nI (f i)
def qb_i (b : Bool) : Int32 := if b = true then 1 else 0
def qb_F (f : Nat → Bool) : Nat → Int32 := fun i => qb_i (f i)
theorem qn_at (f : Nat → Nat) (i : Nat) : qn_F f i = nI (f i) := rfl
theorem qb_at (f : Nat → Bool) (i : Nat) : qb_F f i = qb_i (f i) := rfl
theorem qb_it : qb_i true = 1 := rfl
theorem qb_if : qb_i false = 0 := rfl
theorem qb_nar (b : Bool) : vp_nar .boolean (qb_i b) = qb_i b := by cases b <;> decide
theorem qb_nar1 : vp_nar .boolean 1 = qb_i true := by decide
theorem qb_nar0 : vp_nar .boolean 0 = qb_i false := by decide
theorem qb_z {b : Bool} : qb_i b = 0 ↔ b = false := by cases b <;> decide
theorem qn_U {f : Nat → Nat} {k v : Nat} : upd (qn_F f) k (nI v) = qn_F (qu_p f k v) := by
  funext j
  show (if j = k then nI v else nI (f j)) = nI (if j = k then v else f j)
  split <;> rfl
theorem qb_U {f : Nat → Bool} {k : Nat} {v : Bool} : upd (qb_F f) k (qb_i v) = qb_F (qu_p f k v) := by
  funext j
  show (if j = k then qb_i v else qb_i (f j)) = qb_i (if j = k then v else f j)
  split <;> rfl
theorem qb_br {b : Bool} {A B : Prop} (f : b = false → A) (g : b = true → B) : (qb_i b = 0 → A) ∧ (¬ qb_i b = 0 → B) := by
  cases b
  · exact ⟨fun _ => f rfl, fun h => absurd rfl h⟩
  · exact ⟨fun h => absurd h (by decide), fun _ => g rfl⟩
theorem qb_bz (v : Int32) : ∃ b : Bool, lw_bz v = qb_i b := by
  rcases lw_bz_01 v with h | h
  · exact ⟨false, h⟩
  · exact ⟨true, h⟩
theorem qi_12 (s p : Nat) : nI s * 12 + nI p = nI (12 * s + p) := by
  rw [show (12 : Int32) = nI 12 from rfl, pk_mul, nI_add, Nat.mul_comm]
theorem qi_12' (s : Nat) : nI s * 12 = nI (12 * s) := by
  rw [show (12 : Int32) = nI 12 from rfl, pk_mul, Nat.mul_comm]
theorem qi_3 (s p : Nat) : nI s * 3 + nI p = nI (3 * s + p) := by
  rw [show (3 : Int32) = nI 3 from rfl, pk_mul, nI_add, Nat.mul_comm]
theorem qi_64 (s p : Nat) : nI s * 64 + nI p = nI (64 * s + p) := by
  rw [show (64 : Int32) = nI 64 from rfl, pk_mul, nI_add, Nat.mul_comm]
/-! bits -/
def qm_b (k : Nat) : Int64 := (1 : Int64) <<< ((nI k).toInt64 &&& 63)
theorem qm_d (k : Nat) : (1 : Int64) <<< ((nI k).toInt64 &&& 63) = qm_b k := rfl
theorem qm_tp : ∀ k, k < 64 → (qm_b k).toBitVec = BitVec.twoPow 64 k := by decide +kernel
theorem qm_tz : ∀ k, k < 64 → BitVec.twoPow 64 k ≠ 0#64 := by decide +kernel
def qm_s (wk : Nat → Nat) (b : Nat) : Nat → Int64
  | 0 => 0
  | n + 1 => qm_s wk b n ||| qm_b (wk (b + n))
theorem qm_bit {wk : Nat → Nat} {b j : Nat} (hj : j < 64) : ∀ n, (∀ p, p < n → wk (b + p) < 64) → ((qm_s wk b n).toBitVec.getLsbD j = true ↔ ∃ p, p < n ∧ wk (b + p) = j) := by
  intro n
  induction n with
  | zero =>
    intro _
    constructor
    · intro h
      rw [show (qm_s wk b 0).toBitVec = 0#64 from rfl, BitVec.getLsbD_zero] at h
      exact absurd h (by decide)
    · rintro ⟨p, hp, _⟩
      omega
  | succ n ih =>
    intro hk
    have e : (qm_s wk b (n + 1)).toBitVec = (qm_s wk b n).toBitVec ||| (qm_b (wk (b + n))).toBitVec := rfl
    have h0 := hk n (by omega)
    rw [e, qm_tp _ h0, BitVec.getLsbD_or, BitVec.getLsbD_twoPow, Bool.or_eq_true, ih (fun p hp => hk p (by omega))]
    constructor
    · rintro (⟨p, hp, e⟩ | h)
      · exact ⟨p, by omega, e⟩
      · refine ⟨n, by omega, ?_⟩
        simp at h
        omega
    · rintro ⟨p, hp, e⟩
      by_cases h : p = n
      · subst h
        right
        simp
        omega
      · exact Or.inl ⟨p, by omega, e⟩
theorem qm_and {x : Int64} {j : Nat} (hj : j < 64) : (x &&& qm_b j) = 0 ↔ x.toBitVec.getLsbD j = false := by
  rw [← Int64.toBitVec_inj, Int64.toBitVec_and, qm_tp j hj, BitVec.and_twoPow]
  show _ = 0#64 ↔ _
  cases hb : x.toBitVec.getLsbD j
  · exact ⟨fun _ => rfl, fun _ => by simp⟩
  · constructor
    · intro h
      exact absurd (by simpa using h) (qm_tz j hj)
    · intro h
      exact absurd h (by decide)
/-- the session whose writes lie from b has written key, among its first n -/
def qw_W (wk : Nat → Nat) (b key : Nat) : Nat → Bool
  | 0 => false
  | n + 1 => qw_W wk b key n || decide (wk (b + n) = key)
theorem qw_iff {wk : Nat → Nat} {b key : Nat} : ∀ n, qw_W wk b key n = true ↔ ∃ p, p < n ∧ wk (b + p) = key := by
  intro n
  induction n with
  | zero => exact ⟨fun h => absurd h (by simp [qw_W]), fun ⟨p, hp, _⟩ => by omega⟩
  | succ n ih =>
    rw [qw_W, Bool.or_eq_true, ih, decide_eq_true_iff]
    constructor
    · rintro (⟨p, hp, e⟩ | h)
      · exact ⟨p, by omega, e⟩
      · exact ⟨n, by omega, h⟩
    · rintro ⟨p, hp, e⟩
      by_cases h : p = n
      · exact Or.inr (h ▸ e)
      · exact Or.inl ⟨p, by omega, e⟩
theorem qw_bit {wk : Nat → Nat} {b j n : Nat} (hj : j < 64) (hk : ∀ p, p < n → wk (b + p) < 64) : (qm_s wk b n).toBitVec.getLsbD j = qw_W wk b j n := by
  rw [Bool.eq_iff_iff, qm_bit hj n hk, qw_iff]
theorem qw_and {wk : Nat → Nat} {b j n : Nat} (hj : j < 64) (hk : ∀ p, p < n → wk (b + p) < 64) : (qm_s wk b n &&& qm_b j) = 0 ↔ qw_W wk b j n = false := by
  rw [qm_and hj, qw_bit hj hk]
/-- the last of n writes to key, or d -/
def ql_l (wk : Nat → Nat) (v : Nat → Int64) (b key : Nat) (d : Int64) : Nat → Int64
  | 0 => d
  | n + 1 => if wk (b + n) = key then v (b + n) else ql_l wk v b key d n
theorem ql_c {wk : Nat → Nat} {v w : Nat → Int64} {b key : Nat} {d : Int64} : ∀ n, (∀ p, p < n → v (b + p) = w (b + p)) → ql_l wk v b key d n = ql_l wk w b key d n := by
  intro n
  induction n with
  | zero => intro _; rfl
  | succ n ih =>
    intro h
    rw [ql_l, ql_l, ih (fun p hp => h p (by omega)), h n (by omega)]
def qv_v (t : Nat → Bool) (v : Nat → Int32) (i : Nat) : Int64 := if t i = true then (v i).toInt64 else 1000000000000
/-- the row of key as of commit m, by the first n writes of the history -/
def qa_f (hc hk : Nat → Nat) (v : Nat → Int64) (m key : Nat) : Nat → Int64
  | 0 => 1000000000000
  | n + 1 => if hc n ≤ m ∧ hk n = key then v n else qa_f hc hk v m key n
theorem qa_c {hc hk hc' hk' : Nat → Nat} {v v' : Nat → Int64} {m key : Nat} : ∀ n, (∀ i, i < n → hc' i = hc i ∧ hk' i = hk i ∧ v' i = v i) → qa_f hc' hk' v' m key n = qa_f hc hk v m key n := by
  intro n
  induction n with
  | zero => intro _; rfl
  | succ n ih =>
    intro h
    obtain ⟨a, b, c⟩ := h n (by omega)
    rw [qa_f, qa_f, ih (fun i hi => h i (by omega)), a, b, c]
theorem qa_m {hc hk : Nat → Nat} {v : Nat → Int64} {m m' key : Nat} : ∀ n, (∀ i, i < n → (hc i ≤ m ↔ hc i ≤ m')) → qa_f hc hk v m key n = qa_f hc hk v m' key n := by
  intro n
  induction n with
  | zero => intro _; rfl
  | succ n ih =>
    intro h
    rw [qa_f, qa_f, ih (fun i hi => h i (by omega))]
    simp only [h n (by omega)]
theorem qa_ext {hc hk : Nat → Nat} {v : Nat → Int64} {m key n : Nat} : ∀ d, (∀ i, n ≤ i → i < n + d → m < hc i) → qa_f hc hk v m key (n + d) = qa_f hc hk v m key n := by
  intro d
  induction d with
  | zero => intro _; rfl
  | succ d ih =>
    intro h
    have h1 := h (n + d) (by omega) (by omega)
    rw [← Nat.add_assoc, qa_f, if_neg (by omega), ih (fun i hi hj => h i hi (by omega))]
/-- how many below n -/
def qc_c (P : Nat → Bool) : Nat → Nat
  | 0 => 0
  | n + 1 => qc_c P n + (if P n = true then 1 else 0)
theorem qc_le (P : Nat → Bool) : ∀ n, qc_c P n ≤ n := by
  intro n
  induction n with
  | zero => exact Nat.le_refl 0
  | succ n ih => rw [qc_c]; split <;> omega
theorem qc_cg {P Q : Nat → Bool} : ∀ n, (∀ i, i < n → P i = Q i) → qc_c P n = qc_c Q n := by
  intro n
  induction n with
  | zero => intro _; rfl
  | succ n ih => intro h; rw [qc_c, qc_c, ih (fun i hi => h i (by omega)), h n (by omega)]
theorem qc_rm {Q : Nat → Bool} {j : Nat} (hj : Q j = true) : ∀ m, j < m → qc_c Q m = qc_c (qu_p Q j false) m + 1 := by
  intro m
  induction m with
  | zero => intro h; omega
  | succ m ih =>
    intro h
    by_cases e : j = m
    · subst e
      rw [qc_c, qc_c, hj, qu_s, qc_cg (P := qu_p Q j false) (Q := Q) j (fun i hi => qu_n (by omega))]
      simp
    · rw [qc_c, qc_c, ih (by omega), qu_n (Ne.symm e)]
      omega
theorem qc_0 {Q : Nat → Bool} : ∀ m, (∀ j, j < m → Q j = false) → qc_c Q m = 0 := by
  intro m
  induction m with
  | zero => intro _; rfl
  | succ m ih => intro h; rw [qc_c, ih (fun j hj => h j (by omega)), h m (by omega)]; rfl
theorem qc_bij {P : Nat → Bool} {f : Nat → Nat} {m : Nat} : ∀ n (Q : Nat → Bool), (∀ i, i < n → P i = true → f i < m ∧ Q (f i) = true) → (∀ i i', i < n → i' < n → P i = true → P i' = true → f i = f i' → i = i') → (∀ j, j < m → Q j = true → ∃ i, i < n ∧ P i = true ∧ f i = j) → qc_c P n = qc_c Q m := by
  intro n
  induction n with
  | zero =>
    intro Q _ _ h
    rw [qc_0 (Q := Q) m]
    · rfl
    · intro j hj
      cases hq : Q j
      · rfl
      · obtain ⟨i, hi, _⟩ := h j hj hq
        omega
  | succ n ih =>
    intro Q h1 h2 h3
    cases hp : P n
    · rw [qc_c, hp]
      show qc_c P n + 0 = _
      refine ih Q (fun i hi => h1 i (by omega)) (fun i i' hi hi' => h2 i i' (by omega) (by omega)) (fun j hj hq => ?_)
      obtain ⟨i, hi, hpi, e⟩ := h3 j hj hq
      refine ⟨i, ?_, hpi, e⟩
      rcases Nat.lt_or_ge i n with h | h
      · exact h
      · have : i = n := by omega
        subst this
        rw [hp] at hpi
        exact absurd hpi (by decide)
    · obtain ⟨a, b⟩ := h1 n (by omega) hp
      rw [qc_c, hp, qc_rm b m a]
      show qc_c P n + 1 = _
      refine congrArg (· + 1) (ih (qu_p Q (f n) false) (fun i hi hpi => ?_) (fun i i' hi hi' => h2 i i' (by omega) (by omega)) (fun j hj hq => ?_))
      · obtain ⟨c, d⟩ := h1 i (by omega) hpi
        refine ⟨c, ?_⟩
        rw [qu_n]
        · exact d
        · intro e
          have := h2 i n (by omega) (by omega) hpi hp e
          omega
      · by_cases e : j = f n
        · subst e
          rw [qu_s] at hq
          exact absurd hq (by decide)
        · rw [qu_n e] at hq
          obtain ⟨i, hi, hpi, ei⟩ := h3 j hj hq
          refine ⟨i, ?_, hpi, ei⟩
          rcases Nat.lt_or_ge i n with h | h
          · exact h
          · have : i = n := by omega
            subst this
            exact absurd ei.symm e
/-- a prefix -/
theorem qc_pre {P : Nat → Bool} : ∀ n, (∀ i j, i ≤ j → j < n → P j = true → P i = true) → ∀ i, i < n → (P i = true ↔ i < qc_c P n) := by
  intro n
  induction n with
  | zero => intro _ i hi; omega
  | succ n ih =>
    intro h i hi
    cases hp : P n
    · rw [qc_c, hp]
      show _ ↔ i < qc_c P n + 0
      by_cases e : i = n
      · subst e
        rw [hp]
        have := qc_le P i
        constructor
        · intro h; exact absurd h (by decide)
        · intro h; omega
      · exact ih (fun i j a b => h i j a (by omega)) i (by omega)
    · rw [qc_c, hp]
      have hall : ∀ m, m ≤ n + 1 → qc_c P m = m := by
        intro m
        induction m with
        | zero => intro _; rfl
        | succ m im => intro hm; rw [qc_c, im (by omega), h m n (by omega) (by omega) hp]; rfl
      rw [hall n (by omega)]
      show _ ↔ i < n + 1
      exact ⟨fun _ => hi, fun _ => h i n (by omega) (by omega) hp⟩
/-- bits counted by clearing the lowest -/
def qp_c : Nat → Nat → Nat
  | 0, _ => 0
  | n + 1, y => y % 2 + qp_c n (y / 2)
theorem qp_and2 (a b : Nat) : (a &&& b) % 2 = (a % 2) * (b % 2) ∧ (a &&& b) / 2 = (a / 2) &&& (b / 2) := by
  constructor
  · have h : (a &&& b).testBit 0 = (a.testBit 0 && b.testBit 0) := Nat.testBit_and a b 0
    rw [Nat.testBit_zero, Nat.testBit_zero, Nat.testBit_zero] at h
    rcases Nat.mod_two_eq_zero_or_one a with ha | ha <;> rcases Nat.mod_two_eq_zero_or_one b with hb | hb <;> rcases Nat.mod_two_eq_zero_or_one (a &&& b) with hc | hc <;> rw [ha, hb, hc] at h <;> rw [ha, hb, hc] <;> simp at h <;> rfl
  · exact Nat.and_div_two
theorem qp_clr : ∀ n y, 0 < y → y < 2 ^ n → qp_c n (y &&& (y - 1)) + 1 = qp_c n y := by
  intro n
  induction n with
  | zero => intro y h0 h1; rw [Nat.pow_zero] at h1; omega
  | succ n ih =>
    intro y h0 h1
    obtain ⟨e1, e2⟩ := qp_and2 y (y - 1)
    rw [qp_c, qp_c, e1, e2]
    rw [Nat.pow_succ] at h1
    rcases Nat.mod_two_eq_zero_or_one y with hy | hy
    · have : (y - 1) / 2 = y / 2 - 1 := by omega
      rw [hy, this, ← ih (y / 2) (by omega) (by omega)]
      omega
    · have : (y - 1) / 2 = y / 2 := by omega
      rw [hy, this, Nat.and_self, show (y - 1) % 2 = 0 by omega]
      omega
theorem qc_sh (P : Nat → Bool) : ∀ n, qc_c P (n + 1) = (if P 0 = true then 1 else 0) + qc_c (fun i => P (i + 1)) n := by
  intro n
  induction n with
  | zero => rw [qc_c, qc_c, qc_c]; omega
  | succ n ih => rw [qc_c, ih, qc_c]; omega
theorem qp_cnt : ∀ n y, qp_c n y = qc_c (fun i => y.testBit i) n := by
  intro n
  induction n with
  | zero => intro y; rfl
  | succ n ih =>
    intro y
    rw [qp_c, ih, qc_sh]
    congr 1
    · rw [Nat.testBit_zero]
      rcases Nat.mod_two_eq_zero_or_one y with h | h <;> rw [h] <;> rfl
    · refine qc_cg n (fun i _ => ?_)
      rw [Nat.testBit_succ]
end
section
/-! more pure rows: some one of the first n; copies -/
def qe_x (P : Nat → Bool) : Nat → Bool
  | 0 => false
  | n + 1 => qe_x P n || P n
theorem qe_iff {P : Nat → Bool} : ∀ n, qe_x P n = true ↔ ∃ i, i < n ∧ P i = true := by
  intro n
  induction n with
  | zero => exact ⟨fun h => absurd h (by simp [qe_x]), fun ⟨p, hp, _⟩ => by omega⟩
  | succ n ih =>
    rw [qe_x, Bool.or_eq_true, ih]
    constructor
    · rintro (⟨p, hp, e⟩ | h)
      · exact ⟨p, by omega, e⟩
      · exact ⟨n, by omega, h⟩
    · rintro ⟨p, hp, e⟩
      by_cases h : p = n
      · exact Or.inr (h ▸ e)
      · exact Or.inl ⟨p, by omega, e⟩
/-- tracked, but for session b: some other open serializable one started before j -/
def qt_K (op se : Nat → Bool) (st : Nat → Nat) (b : Int32) (j : Nat) : Bool := qe_x (fun o => decide (¬ nI o = b) && (op o && (se o && decide (st o < j)))) 4
theorem qt_iff {op se : Nat → Bool} {st : Nat → Nat} {b : Int32} {j : Nat} : qt_K op se st b j = true ↔ ∃ o, o < 4 ∧ ¬ nI o = b ∧ op o = true ∧ se o = true ∧ st o < j := by
  rw [qt_K, qe_iff]
  simp only [Bool.and_eq_true, decide_eq_true_eq]
def qt_T (st pn : Nat → Nat) (rx pw : Nat → Int64) (s i : Nat) : Bool := decide (st s < pn i) && decide (¬ (rx s &&& pw i) = 0)
def qt_R (st pn : Nat → Nat) (pr : Nat → Int64) (w : Int64) (s i : Nat) : Bool := decide (st s < pn i) && decide (¬ (pr i &&& w) = 0)
theorem qt_Ti {st pn : Nat → Nat} {rx pw : Nat → Int64} {s i : Nat} : qt_T st pn rx pw s i = true ↔ st s < pn i ∧ ¬ (rx s &&& pw i) = 0 := by
  rw [qt_T, Bool.and_eq_true, decide_eq_true_eq, decide_eq_true_eq]
theorem qt_Ri {st pn : Nat → Nat} {pr : Nat → Int64} {w : Int64} {s i : Nat} : qt_R st pn pr w s i = true ↔ st s < pn i ∧ ¬ (pr i &&& w) = 0 := by
  rw [qt_R, Bool.and_eq_true, decide_eq_true_eq, decide_eq_true_eq]
/-- d with n cells of src from b on -/
def qk_c {α : Type} (d src : Nat → α) (b n : Nat) : Nat → α := fun j => if b ≤ j ∧ j < b + n then src (j - b) else d j
theorem qk_0 {α : Type} {d src : Nat → α} {b : Nat} : qk_c d src b 0 = d := by
  funext j
  rw [qk_c, if_neg (by omega)]
theorem qk_s {α : Type} {d src : Nat → α} {b n : Nat} : qu_p (qk_c d src b n) (b + n) (src n) = qk_c d src b (n + 1) := by
  funext j
  rw [qu_p]
  by_cases h : j = b + n
  · rw [if_pos h, qk_c, if_pos (by omega), show j - b = n by omega]
  · rw [if_neg h, qk_c, qk_c]
    by_cases h2 : b ≤ j ∧ j < b + n
    · rw [if_pos h2, if_pos (by omega)]
    · rw [if_neg h2, if_neg (by omega)]
theorem qk_s0 {α : Type} {d src : Nat → α} {n : Nat} : qu_p (qk_c d src 0 n) n (src n) = qk_c d src 0 (n + 1) := by
  have h := qk_s (d := d) (src := src) (b := 0) (n := n)
  rw [Nat.zero_add] at h
  exact h
theorem qk_in {α : Type} {d src : Nat → α} {b n i : Nat} (h : i < n) : qk_c d src b n (b + i) = src i := by
  rw [qk_c, if_pos (by omega), Nat.add_sub_cancel_left]
theorem qk_in0 {α : Type} {d src : Nat → α} {n i : Nat} (h : i < n) : qk_c d src 0 n i = src i := by
  rw [qk_c, if_pos (by omega), Nat.sub_zero]
theorem qk_out {α : Type} {d src : Nat → α} {b n j : Nat} (h : j < b ∨ b + n ≤ j) : qk_c d src b n j = d j := by
  rw [qk_c, if_neg (by omega)]
/-- flags: f, or R among the first i -/
def qf_m (f R : Nat → Bool) (i : Nat) : Nat → Bool := fun j => f j || (decide (j < i) && R j)
theorem qf_0 {f R : Nat → Bool} : qf_m f R 0 = f := by
  funext j
  simp [qf_m]
theorem qf_t {f R : Nat → Bool} {i : Nat} (h : R i = true) : qu_p (qf_m f R i) i true = qf_m f R (i + 1) := by
  funext j
  by_cases e : j = i
  · subst e
    rw [qu_s, qf_m, h]
    simp
  · rw [qu_n e, qf_m, qf_m]
    congr 2
    simp only [decide_eq_decide]
    omega
theorem qf_f {f R : Nat → Bool} {i : Nat} (h : R i = false) : qf_m f R i = qf_m f R (i + 1) := by
  funext j
  by_cases e : j = i
  · subst e
    rw [qf_m, qf_m, h, Bool.and_false, Bool.and_false]
  · rw [qf_m, qf_m]
    congr 2
    simp only [decide_eq_decide]
    omega
/-- the read set with key noted -/
def qo_n (wk : Nat → Nat) (n s key : Nat) (r : Nat → Int64) : Nat → Int64 := if qw_W wk (12 * s) key n = true then r else qu_p r s (r s ||| qm_b key)
def qr_R (wk : Nat → Nat) (wr : Nat → Int64) (b : Nat) (ro : Nat → Int64) : Nat → (Nat → Int64)
  | 0 => ro
  | n + 1 => qu_p (qr_R wk wr b ro n) (wk (b + n)) (wr (b + n))
def qr_N (wk : Nat → Nat) (c b : Nat) (lw : Nat → Nat) : Nat → (Nat → Nat)
  | 0 => lw
  | n + 1 => qu_p (qr_N wk c b lw n) (wk (b + n)) c
theorem qr_Rl {wk : Nat → Nat} {wr ro : Nat → Int64} {b key : Nat} : ∀ n, qr_R wk wr b ro n key = ql_l wk wr b key (ro key) n := by
  intro n
  induction n with
  | zero => rfl
  | succ n ih =>
    rw [qr_R, ql_l]
    by_cases h : wk (b + n) = key
    · rw [if_pos h, ← h, qu_s]
    · rw [if_neg h, qu_n (Ne.symm h), ih]
theorem qr_Nl {wk lw : Nat → Nat} {c b key : Nat} : ∀ n, qr_N wk c b lw n key = if qw_W wk b key n = true then c else lw key := by
  intro n
  induction n with
  | zero => rfl
  | succ n ih =>
    rw [qr_N, qw_W]
    by_cases h : wk (b + n) = key
    · rw [← h, qu_s]
      simp
    · rw [qu_n (Ne.symm h), ih]
      simp [h]
theorem qn_U0 {f : Nat → Nat} {k : Nat} : upd (qn_F f) k 0 = qn_F (qu_p f k 0) := by
  rw [← nI_0, qn_U]
end
section
section
variable {g : Int32} {C D H : Nat} {ro dr sn rx wr pr pw cr cw ry : Nat → Int64} {lw st wc wk sc sv pn hc hk cs yc ys : Nat → Nat} {op se pO pI ht kn yt : Nat → Bool} {hv yv : Nat → Int32}
theorem wx_isOpen {post : Int32 → Prop} {s : Nat} (hs : s < 4) (h : post (qb_i (op s))) : wpX_isOpen post (g, nI C, nI D, ro, dr, qn_F lw, qb_F op, qb_F se, qn_F st, sn, rx, qn_F wc, qn_F wk, wr, qn_F sc, qn_F sv, qn_F pn, pr, pw, qb_F pO, qb_F pI) (nI s) := by
  unfold wpX_isOpen
  simp only [nI_clamp (show s < 2 ^ 31 by omega), qb_at]
  refine pk_lt s 0 (fun h => absurd h (by omega)) (fun _ => pk_le 4 s (fun h => absurd h (by omega)) (fun _ => ⟨vp_in_nI hs (by omega), qb_br (fun e => ?_) (fun e => ?_)⟩))
  · rw [e] at h; exact h
  · rw [e] at h; exact h
theorem wx_open (v1 : Int32) : (∃ s, s < 4 ∧ v1 = nI s ∧ op s = true) ∨ ((∀ post : Int32 → Prop, post 0 → wpX_isOpen post (g, nI C, nI D, ro, dr, qn_F lw, qb_F op, qb_F se, qn_F st, sn, rx, qn_F wc, qn_F wk, wr, qn_F sc, qn_F sv, qn_F pn, pr, pw, qb_F pO, qb_F pI) v1) ∧ (∀ post : Int32 → Prop, post 0 → wpY_isOpen post (g, nI C, nI D, nI H, qn_F hc, qn_F hk, hv, qb_F ht, qn_F cs, cr, cw, qb_F kn, qb_F op, qb_F se, qn_F st, ry, qn_F yc, qn_F ys, qn_F wk, yv, qb_F yt, qn_F sv) v1)) := by
  rcases pk_ix v1 (n := 4) (by omega) with h | h | ⟨s, hs, rfl⟩
  · exact Or.inr ⟨fun post p => br_t h p, fun post p => br_t h p⟩
  · have h0 : ¬ v1 < 0 := fun z => absurd (Int32.lt_of_lt_of_le z (Int32.le_trans (show (0 : Int32) ≤ nI 4 by decide) h)) (Int32.lt_irrefl)
    exact Or.inr ⟨fun post p => br_f h0 (br_t h p), fun post p => br_f h0 (br_t h p)⟩
  · cases ho : op s
    · refine Or.inr ⟨fun post p => ?_, fun post p => ?_⟩
      · exact wx_isOpen hs (by rw [ho]; exact p)
      · unfold wpY_isOpen
        simp only [nI_clamp (show s < 2 ^ 31 by omega), qb_at]
        refine pk_lt s 0 (fun h => absurd h (by omega)) (fun _ => pk_le 4 s (fun h => absurd h (by omega)) (fun _ => ⟨vp_in_nI hs (by omega), qb_br (fun e => p) (fun e => ?_)⟩))
        rw [ho] at e
        exact absurd e (by decide)
    · exact Or.inl ⟨s, hs, rfl, ho⟩
theorem wx_isOpenT {post : Int32 → Prop} {s : Nat} (hs : s < 4) (ho : op s = true) (h : post 1) : wpX_isOpen post (g, nI C, nI D, ro, dr, qn_F lw, qb_F op, qb_F se, qn_F st, sn, rx, qn_F wc, qn_F wk, wr, qn_F sc, qn_F sv, qn_F pn, pr, pw, qb_F pO, qb_F pI) (nI s) := wx_isOpen hs (by rw [ho]; exact h)
theorem wy_isOpenT {post : Int32 → Prop} {s : Nat} (hs : s < 4) (ho : op s = true) (h : post 1) : wpY_isOpen post (g, nI C, nI D, nI H, qn_F hc, qn_F hk, hv, qb_F ht, qn_F cs, cr, cw, qb_F kn, qb_F op, qb_F se, qn_F st, ry, qn_F yc, qn_F ys, qn_F wk, yv, qb_F yt, qn_F sv) (nI s) := by
  unfold wpY_isOpen
  simp only [nI_clamp (show s < 2 ^ 31 by omega), qb_at]
  refine pk_lt s 0 (fun h => absurd h (by omega)) (fun _ => pk_le 4 s (fun h => absurd h (by omega)) (fun _ => ⟨vp_in_nI hs (by omega), qb_br (fun e => ?_) (fun e => h)⟩))
  rw [ho] at e
  exact absurd e (by decide)
theorem wx_key (v2 : Int32) : (∃ key, key < 64 ∧ v2 = nI key) ∨ ((∀ post : Int32 → Prop, post 0 → wpX_isKey post (g, nI C, nI D, ro, dr, qn_F lw, qb_F op, qb_F se, qn_F st, sn, rx, qn_F wc, qn_F wk, wr, qn_F sc, qn_F sv, qn_F pn, pr, pw, qb_F pO, qb_F pI) v2) ∧ (∀ post : Int32 → Prop, post 0 → wpY_isKey post (g, nI C, nI D, nI H, qn_F hc, qn_F hk, hv, qb_F ht, qn_F cs, cr, cw, qb_F kn, qb_F op, qb_F se, qn_F st, ry, qn_F yc, qn_F ys, qn_F wk, yv, qb_F yt, qn_F sv) v2)) := by
  rcases pk_ix v2 (n := 64) (by omega) with h | h | ⟨key, hy, rfl⟩
  · exact Or.inr ⟨fun post p => br_t h p, fun post p => br_t h p⟩
  · have h0 : ¬ v2 < 0 := fun z => absurd (Int32.lt_of_lt_of_le z (Int32.le_trans (show (0 : Int32) ≤ nI 64 by decide) h)) (Int32.lt_irrefl)
    exact Or.inr ⟨fun post p => br_f h0 (br_t h p), fun post p => br_f h0 (br_t h p)⟩
  · exact Or.inl ⟨key, hy, rfl⟩
theorem wx_isKeyT {post : Int32 → Prop} {key : Nat} (hy : key < 64) (h : post 1) : wpX_isKey post (g, nI C, nI D, ro, dr, qn_F lw, qb_F op, qb_F se, qn_F st, sn, rx, qn_F wc, qn_F wk, wr, qn_F sc, qn_F sv, qn_F pn, pr, pw, qb_F pO, qb_F pI) (nI key) :=
  pk_lt key 0 (fun h => absurd h (by omega)) (fun _ => pk_le 64 key (fun h => absurd h (by omega)) (fun _ => h))
theorem wy_isKeyT {post : Int32 → Prop} {key : Nat} (hy : key < 64) (h : post 1) : wpY_isKey post (g, nI C, nI D, nI H, qn_F hc, qn_F hk, hv, qb_F ht, qn_F cs, cr, cw, qb_F kn, qb_F op, qb_F se, qn_F st, ry, qn_F yc, qn_F ys, qn_F wk, yv, qb_F yt, qn_F sv) (nI key) :=
  pk_lt key 0 (fun h => absurd h (by omega)) (fun _ => pk_le 64 key (fun h => absurd h (by omega)) (fun _ => h))
theorem wx_ws5 {post : Int64 → Prop} {s : Nat} (hs : s < 4) (hw : wc s ≤ 12) (h : post (qm_s wk (12 * s) (wc s))) : ∀ d i, i + d = wc s → wX_writeSet_5 post (nI s) g (nI C) (nI D) ro dr (qn_F lw) (qb_F op) (qb_F se) (qn_F st) sn rx (qn_F wc) (qn_F wk) wr (qn_F sc) (qn_F sv) (qn_F pn) pr pw (qb_F pO) (qb_F pI) (d + 1) (qm_s wk (12 * s) i) (nI i) := by
  intro d
  induction d with
  | zero =>
    intro i hi
    rw [wX_writeSet_5]
    simp only [nI_clamp (show s < 2 ^ 31 by omega), qn_at]
    refine ⟨vp_in_nI hs (by omega), pk_le (wc s) i (fun _ => ?_) (fun h => absurd h (by omega))⟩
    have : i = wc s := by omega
    rw [this]
    exact h
  | succ d ih =>
    intro i hi
    rw [wX_writeSet_5]
    simp only [nI_clamp (show s < 2 ^ 31 by omega), qn_at, qi_12, nI_clamp (show 12 * s + i < 2 ^ 31 by omega), qm_d, nI_1]
    exact ⟨vp_in_nI hs (by omega), pk_le (wc s) i (fun h => absurd h (by omega)) (fun _ => ⟨vp_in_nI (by omega) (by omega), nm_e (nm_e (ih (i + 1) (by omega)))⟩)⟩
theorem wx_writeSet {post : Int64 → Prop} {s : Nat} (hs : s < 4) (hw : wc s ≤ 12) (h : post (qm_s wk (12 * s) (wc s))) : wpX_writeSet post (g, nI C, nI D, ro, dr, qn_F lw, qb_F op, qb_F se, qn_F st, sn, rx, qn_F wc, qn_F wk, wr, qn_F sc, qn_F sv, qn_F pn, pr, pw, qb_F pO, qb_F pI) (nI s) := by
  unfold wpX_writeSet
  exact ⟨wc s + 1, wx_ws5 hs hw h (wc s) 0 (by omega)⟩
theorem wx_hasWritten {post : Int32 → Prop} {s key : Nat} (hs : s < 4) (hw : wc s ≤ 12) (hp : ∀ p, p < wc s → wk (12 * s + p) < 64) (hy : key < 64) (h : post (qb_i (qw_W wk (12 * s) key (wc s)))) : wpX_hasWritten post (g, nI C, nI D, ro, dr, qn_F lw, qb_F op, qb_F se, qn_F st, sn, rx, qn_F wc, qn_F wk, wr, qn_F sc, qn_F sv, qn_F pn, pr, pw, qb_F pO, qb_F pI) (nI s) (nI key) := by
  unfold wpX_hasWritten
  dsimp only
  refine wx_writeSet hs hw ?_
  simp only [qm_d]
  cases hb : qw_W wk (12 * s) key (wc s)
  · rw [hb] at h
    exact br_t ((qw_and hy hp).mpr hb) h
  · rw [hb] at h
    exact br_f (fun z => by rw [(qw_and hy hp).mp z] at hb; exact absurd hb (by decide)) h
theorem wx_add {post : SX → Prop} {s key : Nat} (hs : s < 4) (hw : wc s ≤ 12) (hp : ∀ p, p < wc s → wk (12 * s + p) < 64) (hy : key < 64) (h : post (g, nI C, nI D, ro, dr, qn_F lw, qb_F op, qb_F se, qn_F st, sn, qo_n wk (wc s) s key rx, qn_F wc, qn_F wk, wr, qn_F sc, qn_F sv, qn_F pn, pr, pw, qb_F pO, qb_F pI)) : wpX_addToReadSet post (g, nI C, nI D, ro, dr, qn_F lw, qb_F op, qb_F se, qn_F st, sn, rx, qn_F wc, qn_F wk, wr, qn_F sc, qn_F sv, qn_F pn, pr, pw, qb_F pO, qb_F pI) (nI s) (nI key) := by
  unfold wpX_addToReadSet
  dsimp only
  refine wx_hasWritten hs hw hp hy ?_
  simp only [qm_d, nI_clamp (show s < 2 ^ 31 by omega), qu_L]
  refine qb_br (fun e => ?_) (fun e => ?_)
  · rw [qo_n, e] at h
    exact ⟨vp_in_nI hs (by omega), vp_in_nI hs (by omega), nm_e h⟩
  · rw [qo_n, e] at h
    exact h
theorem wx_vr9 {post : Int64 → Prop} {s key : Nat} (hs : s < 4) (hw : wc s ≤ 12) (hp : ∀ p, p < wc s → wk (12 * s + p) < 64) (hy : key < 64) : ∀ p, p ≤ wc s → post (ql_l wk wr (12 * s) key (sn (64 * s + key)) p) → wX_visibleRow_9 post (nI s) (nI key) g (nI C) (nI D) ro dr (qn_F lw) (qb_F op) (qb_F se) (qn_F st) sn rx (qn_F wc) (qn_F wk) wr (qn_F sc) (qn_F sv) (qn_F pn) pr pw (qb_F pO) (qb_F pI) (p + 1) (nI p - 1) := by
  intro p
  induction p with
  | zero =>
    intro _ h
    rw [wX_visibleRow_9]
    simp only [qi_64, nI_clamp (show 64 * s + key < 2 ^ 31 by omega)]
    exact br_t (by decide) ⟨vp_in_nI (by omega) (by omega), h⟩
  | succ p ih =>
    intro hq h
    have h64 := hp p (by omega)
    rw [wX_visibleRow_9, nI_pred]
    simp only [qi_12, nI_clamp (show 12 * s + p < 2 ^ 31 by omega), qn_at]
    refine pk_lt p 0 (fun h => absurd h (by omega)) (fun _ => ⟨vp_in_nI (by omega) (by omega), pk_eq (wk (12 * s + p)) key (fun e => ⟨vp_in_nI (by omega) (by omega), ?_⟩) (fun e => nm_r (e' := nI p - 1) ?_ (ih (by omega) ?_))⟩)
    · rw [ql_l, if_pos e] at h
      exact h
    · rw [Int32.sub_eq_add_neg]
    · rw [ql_l, if_neg e] at h
      exact h
theorem wx_vis {post : Int64 → Prop} {s key : Nat} (hs : s < 4) (hw : wc s ≤ 12) (hp : ∀ p, p < wc s → wk (12 * s + p) < 64) (hy : key < 64) (h : post (ql_l wk wr (12 * s) key (sn (64 * s + key)) (wc s))) : wpX_visibleRow post (g, nI C, nI D, ro, dr, qn_F lw, qb_F op, qb_F se, qn_F st, sn, rx, qn_F wc, qn_F wk, wr, qn_F sc, qn_F sv, qn_F pn, pr, pw, qb_F pO, qb_F pI) (nI s) (nI key) := by
  unfold wpX_visibleRow
  simp only [nI_clamp (show s < 2 ^ 31 by omega), qn_at]
  exact ⟨vp_in_nI hs (by omega), nm_e ⟨wc s + 1, wx_vr9 hs hw hp hy (wc s) (by omega) h⟩⟩
theorem wx_lk2 {post : Int32 → Prop} {s key : Nat} (hs : s < 4) (hw : ∀ o, o < 4 → wc o ≤ 12) (hp : ∀ o, o < 4 → ∀ p, p < wc o → wk (12 * o + p) < 64) (hy : key < 64) (r : Bool) (hr : r = true ↔ ∃ o, o < 4 ∧ o ≠ s ∧ qw_W wk (12 * o) key (wc o) = true) (h : post (qb_i r)) : ∀ d i, i + d = 4 → (∀ o, o < i → o ≠ s → qw_W wk (12 * o) key (wc o) = false) → wX_isLockedByOther_2 post (nI s) (nI key) g (nI C) (nI D) ro dr (qn_F lw) (qb_F op) (qb_F se) (qn_F st) sn rx (qn_F wc) (qn_F wk) wr (qn_F sc) (qn_F sv) (qn_F pn) pr pw (qb_F pO) (qb_F pI) (d + 1) (nI i) := by
  intro d
  induction d with
  | zero =>
    intro i hi hn
    rw [wX_isLockedByOther_2]
    refine pk_le 4 i (fun _ => ?_) (fun h => absurd h (by omega))
    cases hb : r
    · rw [hb] at h; exact h
    · obtain ⟨o, ho, hos, hq⟩ := hr.mp hb
      rw [hn o (by omega) hos] at hq
      exact absurd hq (by decide)
  | succ d ih =>
    intro i hi hn
    rw [wX_isLockedByOther_2]
    simp only [nI_1]
    refine pk_le 4 i (fun h => absurd h (by omega)) (fun _ => pk_eq i s (fun e => nm_e (ih (i + 1) (by omega) (fun o ho hos => hn o (by omega) hos))) (fun e => ?_))
    refine wx_hasWritten (by omega) (hw i (by omega)) (hp i (by omega)) hy ?_
    refine qb_br (fun e0 => nm_e (ih (i + 1) (by omega) (fun o ho hos => ?_))) (fun e1 => ?_)
    · by_cases c : o = i
      · subst c; exact e0
      · exact hn o (by omega) hos
    · have hb : r = true := hr.mpr ⟨i, by omega, e, e1⟩
      rw [hb] at h
      exact h
theorem wx_lk {post : Int32 → Prop} {s key : Nat} (hs : s < 4) (hw : ∀ o, o < 4 → wc o ≤ 12) (hp : ∀ o, o < 4 → ∀ p, p < wc o → wk (12 * o + p) < 64) (hy : key < 64) (r : Bool) (hr : r = true ↔ ∃ o, o < 4 ∧ o ≠ s ∧ qw_W wk (12 * o) key (wc o) = true) (h : post (qb_i r)) : wpX_isLockedByOther post (g, nI C, nI D, ro, dr, qn_F lw, qb_F op, qb_F se, qn_F st, sn, rx, qn_F wc, qn_F wk, wr, qn_F sc, qn_F sv, qn_F pn, pr, pw, qb_F pO, qb_F pI) (nI s) (nI key) := by
  unfold wpX_isLockedByOther
  exact ⟨5, wx_lk2 hs hw hp hy r hr h 4 0 (by omega) (fun o ho => by omega)⟩
theorem wx_end {post : SX → Prop} {s : Nat} (hs : s < 4) (h : post (g, nI C, nI D, ro, dr, qn_F lw, qb_F (qu_p op s false), qb_F se, qn_F st, sn, qu_p rx s 0, qn_F (qu_p wc s 0), qn_F wk, wr, qn_F (qu_p sc s 0), qn_F sv, qn_F pn, pr, pw, qb_F pO, qb_F pI)) : wpX_endTransaction post (g, nI C, nI D, ro, dr, qn_F lw, qb_F op, qb_F se, qn_F st, sn, rx, qn_F wc, qn_F wk, wr, qn_F sc, qn_F sv, qn_F pn, pr, pw, qb_F pO, qb_F pI) (nI s) := by
  unfold wpX_endTransaction
  simp only [nI_clamp (show s < 2 ^ 31 by omega), qb_nar0, qb_U, qu_L, qn_U0]
  exact ⟨vp_in_nI hs (by omega), nm_e ⟨vp_in_nI hs (by omega), nm_e ⟨vp_in_nI hs (by omega), nm_e ⟨vp_in_nI hs (by omega), nm_e h⟩⟩⟩⟩
end
end
