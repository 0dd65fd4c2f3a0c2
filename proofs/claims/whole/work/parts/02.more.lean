/-! more pure rows: some one of the first n; copies -/
def qe_x (P : Nat → Bool) : Nat → Bool
  | 0 => false
  | n + 1 => qe_x P n || P n
theorem qe_iff {P : Nat → Bool} : ∀ n, qe_x P n = true ↔ ∃ i, i < n ∧ P i = true := by
  intro n
  induction n with
  | zero => exact ⟨fun h => absurd h (by simp [qe_x]), fun ⟨p, hp, _⟩ => by omega⟩
  | succ n ih =>
    rw [qe_x, Bool.or_eq_true, ih]
    constructor
    · rintro (⟨p, hp, e⟩ | h)
      · exact ⟨p, by omega, e⟩
      · exact ⟨n, by omega, h⟩
    · rintro ⟨p, hp, e⟩
      by_cases h : p = n
      · exact Or.inr (h ▸ e)
      · exact Or.inl ⟨p, by omega, e⟩
/-- tracked, but for session b: some other running serializable one started before j -/
def qt_K (op se : Nat → Bool) (st : Nat → Nat) (b : Int32) (j : Nat) : Bool := qe_x (fun o => decide (¬ nI o = b) && (op o && (se o && decide (st o < j)))) 4
theorem qt_iff {op se : Nat → Bool} {st : Nat → Nat} {b : Int32} {j : Nat} : qt_K op se st b j = true ↔ ∃ o, o < 4 ∧ ¬ nI o = b ∧ op o = true ∧ se o = true ∧ st o < j := by
  rw [qt_K, qe_iff]
  simp only [Bool.and_eq_true, decide_eq_true_eq]
def qt_T (st pn : Nat → Nat) (rx pw : Nat → Int64) (s i : Nat) : Bool := decide (st s < pn i) && decide (¬ (rx s &&& pw i) = 0)
def qt_R (st pn : Nat → Nat) (pr : Nat → Int64) (w : Int64) (s i : Nat) : Bool := decide (st s < pn i) && decide (¬ (pr i &&& w) = 0)
theorem qt_Ti {st pn : Nat → Nat} {rx pw : Nat → Int64} {s i : Nat} : qt_T st pn rx pw s i = true ↔ st s < pn i ∧ ¬ (rx s &&& pw i) = 0 := by
  rw [qt_T, Bool.and_eq_true, decide_eq_true_eq, decide_eq_true_eq]
theorem qt_Ri {st pn : Nat → Nat} {pr : Nat → Int64} {w : Int64} {s i : Nat} : qt_R st pn pr w s i = true ↔ st s < pn i ∧ ¬ (pr i &&& w) = 0 := by
  rw [qt_R, Bool.and_eq_true, decide_eq_true_eq, decide_eq_true_eq]
/-- d with n cells of src from b on -/
def qk_c {α : Type} (d src : Nat → α) (b n : Nat) : Nat → α := fun j => if b ≤ j ∧ j < b + n then src (j - b) else d j
theorem qk_0 {α : Type} {d src : Nat → α} {b : Nat} : qk_c d src b 0 = d := by
  funext j
  rw [qk_c, if_neg (by omega)]
theorem qk_s {α : Type} {d src : Nat → α} {b n : Nat} : qu_p (qk_c d src b n) (b + n) (src n) = qk_c d src b (n + 1) := by
  funext j
  rw [qu_p]
  by_cases h : j = b + n
  · rw [if_pos h, qk_c, if_pos (by omega), show j - b = n by omega]
  · rw [if_neg h, qk_c, qk_c]
    by_cases h2 : b ≤ j ∧ j < b + n
    · rw [if_pos h2, if_pos (by omega)]
    · rw [if_neg h2, if_neg (by omega)]
theorem qk_s0 {α : Type} {d src : Nat → α} {n : Nat} : qu_p (qk_c d src 0 n) n (src n) = qk_c d src 0 (n + 1) := by
  have h := qk_s (d := d) (src := src) (b := 0) (n := n)
  rw [Nat.zero_add] at h
  exact h
theorem qk_in {α : Type} {d src : Nat → α} {b n i : Nat} (h : i < n) : qk_c d src b n (b + i) = src i := by
  rw [qk_c, if_pos (by omega), Nat.add_sub_cancel_left]
theorem qk_in0 {α : Type} {d src : Nat → α} {n i : Nat} (h : i < n) : qk_c d src 0 n i = src i := by
  rw [qk_c, if_pos (by omega), Nat.sub_zero]
theorem qk_out {α : Type} {d src : Nat → α} {b n j : Nat} (h : j < b ∨ b + n ≤ j) : qk_c d src b n j = d j := by
  rw [qk_c, if_neg (by omega)]
/-- flags: f, or R among the first i -/
def qf_m (f R : Nat → Bool) (i : Nat) : Nat → Bool := fun j => f j || (decide (j < i) && R j)
theorem qf_0 {f R : Nat → Bool} : qf_m f R 0 = f := by
  funext j
  simp [qf_m]
theorem qf_t {f R : Nat → Bool} {i : Nat} (h : R i = true) : qu_p (qf_m f R i) i true = qf_m f R (i + 1) := by
  funext j
  by_cases e : j = i
  · subst e
    rw [qu_s, qf_m, h]
    simp
  · rw [qu_n e, qf_m, qf_m]
    congr 2
    simp only [decide_eq_decide]
    omega
theorem qf_f {f R : Nat → Bool} {i : Nat} (h : R i = false) : qf_m f R i = qf_m f R (i + 1) := by
  funext j
  by_cases e : j = i
  · subst e
    rw [qf_m, qf_m, h, Bool.and_false, Bool.and_false]
  · rw [qf_m, qf_m]
    congr 2
    simp only [decide_eq_decide]
    omega
/-- the read set with key noted -/
def qo_v (wk : Nat → Nat) (n b key : Nat) (r : Int64) : Int64 := if qw_W wk b key n = true then r else r ||| qm_b key
theorem qu_id {α : Type} {f : Nat → α} {k : Nat} : qu_p f k (f k) = f := by
  funext j
  by_cases h : j = k
  · rw [h, qu_s]
  · rw [qu_n h]
theorem qu_qu {α : Type} {f : Nat → α} {k : Nat} {a b : α} : qu_p (qu_p f k a) k b = qu_p f k b := by
  funext j
  by_cases h : j = k
  · rw [h, qu_s, qu_s]
  · rw [qu_n h, qu_n h, qu_n h]
def qr_R (wk : Nat → Nat) (wr : Nat → Int64) (b : Nat) (ro : Nat → Int64) : Nat → (Nat → Int64)
  | 0 => ro
  | n + 1 => qu_p (qr_R wk wr b ro n) (wk (b + n)) (wr (b + n))
def qr_N (wk : Nat → Nat) (c b : Nat) (lw : Nat → Nat) : Nat → (Nat → Nat)
  | 0 => lw
  | n + 1 => qu_p (qr_N wk c b lw n) (wk (b + n)) c
theorem qr_Rl {wk : Nat → Nat} {wr ro : Nat → Int64} {b key : Nat} : ∀ n, qr_R wk wr b ro n key = ql_l wk wr b key (ro key) n := by
  intro n
  induction n with
  | zero => rfl
  | succ n ih =>
    rw [qr_R, ql_l]
    by_cases h : wk (b + n) = key
    · rw [if_pos h, ← h, qu_s]
    · rw [if_neg h, qu_n (Ne.symm h), ih]
theorem qr_Nl {wk lw : Nat → Nat} {c b key : Nat} : ∀ n, qr_N wk c b lw n key = if qw_W wk b key n = true then c else lw key := by
  intro n
  induction n with
  | zero => rfl
  | succ n ih =>
    rw [qr_N, qw_W]
    by_cases h : wk (b + n) = key
    · rw [← h, qu_s]
      simp
    · rw [qu_n (Ne.symm h), ih]
      simp [h]
theorem qn_U0 {f : Nat → Nat} {k : Nat} : upd (qn_F f) k 0 = qn_F (qu_p f k 0) := by
  rw [← nI_0, qn_U]
/-- next and sum, over what is seen (F) and how the read set grows (G) -/
def qx_n (F : Nat → Int64) (G : Nat → Int64 → Int64) : Nat → Nat → Int64 → Nat × Int64
  | 0, i, r => (i, r)
  | d + 1, i, r => if F i = 1000000000000 then qx_n F G d (i + 1) (G i r) else (i, G i r)
def qx_s (F : Nat → Int64) (G : Nat → Int64 → Int64) : Nat → Nat → Int64 → Int64 → Int64 × Int64
  | 0, _, t, r => (t, r)
  | d + 1, i, t, r => qx_s F G d (i + 1) (if F i = 1000000000000 then t else t + F i) (G i r)
