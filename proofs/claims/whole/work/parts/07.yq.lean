/-- i -> j, as the reference reckons it -/
def qr_B (cs : Nat → Nat) (cr cw : Nat → Int64) (kn : Nat → Bool) (i j : Nat) : Prop := i ≠ j ∧ kn i = true ∧ kn j = true ∧ cs i < j ∧ cs j < i ∧ ¬ (cr i &&& cw j) = 0
section
variable {g : Int32} {C D H : Nat} {ro dr sn rx wr pr pw cr cw ry : Nat → Int64} {lw st wc wk sc sv pn hc hk cs yc ys : Nat → Nat} {op se pO pI ht kn yt : Nat → Bool} {hv yv : Nat → Int32}
theorem wy_ar {post : Int32 → Prop} {i j : Nat} (hi : i < 520) (hj : j < 520) (hcs : ∀ i, kn i = true → cs i < 2 ^ 31) (h1 : qr_B cs cr cw kn i j → post 1) (h0 : ¬ qr_B cs cr cw kn i j → post 0) : wpY_arrow post (g, nI C, nI D, nI H, qn_F hc, qn_F hk, hv, qb_F ht, qn_F cs, cr, cw, qb_F kn, qb_F op, qb_F se, qn_F st, ry, qn_F yc, qn_F ys, qn_F wk, yv, qb_F yt, qn_F sv) (nI i) (nI j) := by
  unfold wpY_arrow
  have hi5 : vp_in (nI i) 520 := vp_in_nI hi (by omega)
  have hj5 : vp_in (nI j) 520 := vp_in_nI hj (by omega)
  simp only [nI_clamp (show i < 2 ^ 31 by omega), nI_clamp (show j < 2 ^ 31 by omega), qn_at, qb_at]
  refine pk_eq i j (fun e => h0 (fun z => z.1 e)) (fun e => ⟨hi5, qb_br (fun e1 => h0 (fun z => absurd (e1.symm.trans z.2.1) (by decide))) (fun e1 => ⟨hj5, qb_br (fun e2 => h0 (fun z => absurd (e2.symm.trans z.2.2.1) (by decide))) (fun e2 => ⟨hi5, ?_⟩)⟩)⟩)
  have c1 := hcs i e1
  have c2 := hcs j e2
  refine pk_le j (cs i) (fun e3 => h0 (fun z => by have := z.2.2.2.1; omega)) (fun e3 => ⟨hj5, pk_le i (cs j) (fun e4 => h0 (fun z => by have := z.2.2.2.2.1; omega)) (fun e4 => ⟨hi5, hj5, br_c (fun e5 => h0 (fun z => z.2.2.2.2.2 e5)) (fun e5 => h1 ⟨e, e1, e2, e3, e4, e5⟩)⟩)⟩)
theorem wy_fs2 {post : Int32 → Prop} {p : Nat} (hC : C < 512) (hp : p < 520) (hcs : ∀ i, kn i = true → cs i < 2 ^ 31) (h1 : (∃ i, qr_B cs cr cw kn i p) → post 1) (h0 : ¬ (∃ i, qr_B cs cr cw kn i p) → post 0) (hkn : ∀ i, kn i = true → 1 ≤ i ∧ i ≤ C + 1) : ∀ d i, i + d = C + 2 → (∀ q, q < i → ¬ qr_B cs cr cw kn q p) → wY_arrowFromSome_2 post (nI p) g (nI C) (nI D) (nI H) (qn_F hc) (qn_F hk) hv (qb_F ht) (qn_F cs) cr cw (qb_F kn) (qb_F op) (qb_F se) (qn_F st) ry (qn_F yc) (qn_F ys) (qn_F wk) yv (qb_F yt) (qn_F sv) (d + 1) (nI i) := by
  intro d
  induction d with
  | zero =>
    intro i hi hn
    rw [wY_arrowFromSome_2]
    simp only [nI_1]
    exact pk_lt (C + 1) i (fun _ => h0 (fun ⟨q, hq⟩ => hn q (by have := (hkn q hq.2.1).2; omega) hq)) (fun h => absurd h (by omega))
  | succ d ih =>
    intro i hi hn
    rw [wY_arrowFromSome_2]
    simp only [nI_1]
    refine pk_lt (C + 1) i (fun h => absurd h (by omega)) (fun _ => wy_ar (by omega) hp hcs (fun a => ?_) (fun a => ?_))
    · exact br_f (by decide) (h1 ⟨i, a⟩)
    · refine br_t rfl (nm_e (ih (i + 1) (by omega) (fun q hq => ?_)))
      by_cases c : q = i
      · subst c; exact a
      · exact hn q (by omega)
theorem wy_fs {post : Int32 → Prop} {p : Nat} (hC : C < 512) (hp : p < 520) (hcs : ∀ i, kn i = true → cs i < 2 ^ 31) (hkn : ∀ i, kn i = true → 1 ≤ i ∧ i ≤ C + 1) (h1 : (∃ i, qr_B cs cr cw kn i p) → post 1) (h0 : ¬ (∃ i, qr_B cs cr cw kn i p) → post 0) : wpY_arrowFromSome post (g, nI C, nI D, nI H, qn_F hc, qn_F hk, hv, qb_F ht, qn_F cs, cr, cw, qb_F kn, qb_F op, qb_F se, qn_F st, ry, qn_F yc, qn_F ys, qn_F wk, yv, qb_F yt, qn_F sv) (nI p) := by
  unfold wpY_arrowFromSome
  exact ⟨C + 2, wy_fs2 hC hp hcs h1 h0 hkn (C + 1) 1 (by omega) (fun q hq z => by have := (hkn q z.2.1).1; omega)⟩
theorem wy_ts2 {post : Int32 → Prop} {p : Nat} (hC : C < 512) (hp : p < 520) (hcs : ∀ i, kn i = true → cs i < 2 ^ 31) (h1 : (∃ j, qr_B cs cr cw kn p j) → post 1) (h0 : ¬ (∃ j, qr_B cs cr cw kn p j) → post 0) (hkn : ∀ i, kn i = true → 1 ≤ i ∧ i ≤ C + 1) : ∀ d i, i + d = C + 2 → (∀ q, q < i → ¬ qr_B cs cr cw kn p q) → wY_arrowToSome_2 post (nI p) g (nI C) (nI D) (nI H) (qn_F hc) (qn_F hk) hv (qb_F ht) (qn_F cs) cr cw (qb_F kn) (qb_F op) (qb_F se) (qn_F st) ry (qn_F yc) (qn_F ys) (qn_F wk) yv (qb_F yt) (qn_F sv) (d + 1) (nI i) := by
  intro d
  induction d with
  | zero =>
    intro i hi hn
    rw [wY_arrowToSome_2]
    simp only [nI_1]
    exact pk_lt (C + 1) i (fun _ => h0 (fun ⟨q, hq⟩ => hn q (by have := (hkn q hq.2.2.1).2; omega) hq)) (fun h => absurd h (by omega))
  | succ d ih =>
    intro i hi hn
    rw [wY_arrowToSome_2]
    simp only [nI_1]
    refine pk_lt (C + 1) i (fun h => absurd h (by omega)) (fun _ => wy_ar hp (by omega) hcs (fun a => ?_) (fun a => ?_))
    · exact br_f (by decide) (h1 ⟨i, a⟩)
    · refine br_t rfl (nm_e (ih (i + 1) (by omega) (fun q hq => ?_)))
      by_cases c : q = i
      · subst c; exact a
      · exact hn q (by omega)
theorem wy_ts {post : Int32 → Prop} {p : Nat} (hC : C < 512) (hp : p < 520) (hcs : ∀ i, kn i = true → cs i < 2 ^ 31) (hkn : ∀ i, kn i = true → 1 ≤ i ∧ i ≤ C + 1) (h1 : (∃ j, qr_B cs cr cw kn p j) → post 1) (h0 : ¬ (∃ j, qr_B cs cr cw kn p j) → post 0) : wpY_arrowToSome post (g, nI C, nI D, nI H, qn_F hc, qn_F hk, hv, qb_F ht, qn_F cs, cr, cw, qb_F kn, qb_F op, qb_F se, qn_F st, ry, qn_F yc, qn_F ys, qn_F wk, yv, qb_F yt, qn_F sv) (nI p) := by
  unfold wpY_arrowToSome
  exact ⟨C + 2, wy_ts2 hC hp hcs h1 h0 hkn (C + 1) 1 (by omega) (fun q hq z => by have := (hkn q z.2.2.1).1; omega)⟩
theorem wy_da37 {post : Int32 → Prop} {J : Int32 → Prop} {x1 : Int32} {p : Nat} (hC : C < 512) (hp : p < 520) (hcs : ∀ i, kn i = true → cs i < 2 ^ 31) (hkn : ∀ i, kn i = true → 1 ≤ i ∧ i ≤ C + 1) (h1 : (∃ i, qr_B cs cr cw kn i p) → (∃ j, qr_B cs cr cw kn p j) → post 1) (h0 : ¬ ((∃ i, qr_B cs cr cw kn i p) ∧ (∃ j, qr_B cs cr cw kn p j)) → J (nI (p + 1))) : wY_dangerous_37 post J x1 (nI p) g (nI C) (nI D) (nI H) (qn_F hc) (qn_F hk) hv (qb_F ht) (qn_F cs) cr cw (qb_F kn) (qb_F op) (qb_F se) (qn_F st) ry (qn_F yc) (qn_F ys) (qn_F wk) yv (qb_F yt) (qn_F sv) := by
  unfold wY_dangerous_37
  simp only [nI_1]
  refine wy_fs hC hp hcs hkn (fun a => br_f (by decide) ?_) (fun a => br_t rfl (nm_e (h0 (fun z => a z.1))))
  exact wy_ts hC hp hcs hkn (fun b => br_f (by decide) (h1 a b)) (fun b => br_t rfl (nm_e (h0 (fun z => b z.2))))
/-- what makes commit number n fail -/
def qr_D (cs : Nat → Nat) (cr cw : Nat → Int64) (kn : Nat → Bool) (n m : Nat) : Prop := (m = n ∨ qr_B cs cr cw kn m n ∨ qr_B cs cr cw kn n m) ∧ (∃ i, qr_B cs cr cw kn i m) ∧ (∃ j, qr_B cs cr cw kn m j)
theorem wy_da9 {post : Int32 → Prop} (hC : C < 512) (hcs : ∀ i, kn i = true → cs i < 2 ^ 31) (hkn : ∀ i, kn i = true → 1 ≤ i ∧ i ≤ C + 1) (h1 : (∃ m, qr_D cs cr cw kn (C + 1) m) → post 1) (h0 : ¬ (∃ m, qr_D cs cr cw kn (C + 1) m) → post 0) : ∀ d i, i + d = C + 2 → (∀ q, q < i → ¬ qr_D cs cr cw kn (C + 1) q) → wY_dangerous_9 post (nI (C + 1)) g (nI C) (nI D) (nI H) (qn_F hc) (qn_F hk) hv (qb_F ht) (qn_F cs) cr cw (qb_F kn) (qb_F op) (qb_F se) (qn_F st) ry (qn_F yc) (qn_F ys) (qn_F wk) yv (qb_F yt) (qn_F sv) (d + 1) (nI i) := by
  intro d
  induction d with
  | zero =>
    intro i hi hn
    rw [wY_dangerous_9]
    refine pk_lt (C + 1) i (fun _ => h0 (fun ⟨m, hm⟩ => ?_)) (fun h => absurd h (by omega))
    obtain ⟨i', hi'⟩ := hm.2.1
    exact hn m (by have := (hkn m hi'.2.2.1).2; omega) hm
  | succ d ih =>
    intro i hi hn
    have up : ¬ qr_D cs cr cw kn (C + 1) i → (∀ q, q < i + 1 → ¬ qr_D cs cr cw kn (C + 1) q) := fun z q hq => by
      by_cases c : q = i
      · subst c; exact z
      · exact hn q (by omega)
    have go : (i = C + 1 ∨ qr_B cs cr cw kn i (C + 1) ∨ qr_B cs cr cw kn (C + 1) i) → wY_dangerous_37 post (wY_dangerous_9 post (nI (C + 1)) g (nI C) (nI D) (nI H) (qn_F hc) (qn_F hk) hv (qb_F ht) (qn_F cs) cr cw (qb_F kn) (qb_F op) (qb_F se) (qn_F st) ry (qn_F yc) (qn_F ys) (qn_F wk) yv (qb_F yt) (qn_F sv) (d + 1)) (nI (C + 1)) (nI i) g (nI C) (nI D) (nI H) (qn_F hc) (qn_F hk) hv (qb_F ht) (qn_F cs) cr cw (qb_F kn) (qb_F op) (qb_F se) (qn_F st) ry (qn_F yc) (qn_F ys) (qn_F wk) yv (qb_F yt) (qn_F sv) := fun z =>
      wy_da37 hC (by omega) hcs hkn (fun a b => h1 ⟨i, z, a, b⟩) (fun a => ih (i + 1) (by omega) (up (fun c => a c.2)))
    rw [wY_dangerous_9]
    simp only [nI_1]
    refine pk_lt (C + 1) i (fun h => absurd h (by omega)) (fun _ => pk_eq i (C + 1) (fun e => go (Or.inl e)) (fun e => ?_))
    refine wy_ar (by omega) (by omega) hcs (fun a => br_f (by decide) (go (Or.inr (Or.inl a)))) (fun a => br_t rfl ?_)
    refine wy_ar (by omega) (by omega) hcs (fun b => br_f (by decide) (go (Or.inr (Or.inr b)))) (fun b => br_t rfl ?_)
    exact nm_e (ih (i + 1) (by omega) (up (fun c => Or.elim c.1 e (fun x => Or.elim x a b))))
theorem wy_da {post : Int32 → Prop} (hC : C < 512) (hcs : ∀ i, kn i = true → cs i < 2 ^ 31) (hkn : ∀ i, kn i = true → 1 ≤ i ∧ i ≤ C + 1) (h1 : (∃ m, qr_D cs cr cw kn (C + 1) m) → post 1) (h0 : ¬ (∃ m, qr_D cs cr cw kn (C + 1) m) → post 0) : wpY_dangerous post (g, nI C, nI D, nI H, qn_F hc, qn_F hk, hv, qb_F ht, qn_F cs, cr, cw, qb_F kn, qb_F op, qb_F se, qn_F st, ry, qn_F yc, qn_F ys, qn_F wk, yv, qb_F yt, qn_F sv) := by
  unfold wpY_dangerous
  simp only [nI_1]
  refine nm_e ⟨C + 2, wy_da9 hC hcs hkn h1 h0 (C + 1) 1 (by omega) (fun q hq z => ?_)⟩
  obtain ⟨i', hi'⟩ := z.2.1
  have := (hkn q hi'.2.2.1).1
  omega
theorem wy_tr18 {post : Int32 → Prop} {J : Int32 → Int32 → Prop} {b : Int32} {n j : Nat} (hj : j < 520) (h2 : ∀ s, s < 4 → op s = true → st s < 2 ^ 31) (h : J (nI (n + (if (kn j && qt_K op se st b j) = true then 1 else 0))) (nI (j + 1))) : ∀ d o, o + d = 4 → wY_tracked_18 post J b (nI n) (nI j) g (nI C) (nI D) (nI H) (qn_F hc) (qn_F hk) hv (qb_F ht) (qn_F cs) cr cw (qb_F kn) (qb_F op) (qb_F se) (qn_F st) ry (qn_F yc) (qn_F ys) (qn_F wk) yv (qb_F yt) (qn_F sv) (d + 1) (qb_i (qe_x (fun o => decide (¬ nI o = b) && (op o && (se o && decide (st o < j)))) o)) (nI o) := by
  intro d
  induction d with
  | zero =>
    intro o ho
    have ho4 : o = 4 := by omega
    subst ho4
    rw [wY_tracked_18]
    simp only [nI_clamp (show j < 2 ^ 31 by omega), qb_at, nI_1]
    rw [qt_K] at h
    refine pk_le 4 4 (fun _ => ⟨vp_in_nI hj (by omega), qb_br (fun e => nm_e ?_) (fun e => qb_br (fun e2 => nm_e ?_) (fun e2 => nm_e (nm_e ?_)))⟩) (fun h => absurd h (by omega))
    · rw [if_neg (by rw [e]; simp)] at h
      exact h
    · rw [if_neg (by rw [e2]; simp)] at h
      exact h
    · rw [if_pos (by rw [e, e2]; rfl)] at h
      exact h
  | succ d ih =>
    intro o ho
    have hn := ih (o + 1) (by omega)
    rw [qe_x] at hn
    rw [wY_tracked_18]
    simp only [nI_clamp (show o < 2 ^ 31 by omega), qb_at, qn_at, nI_1]
    refine pk_le 4 o (fun h => absurd h (by omega)) (fun _ => br_c (fun e => nm_e ?_) (fun e => ⟨vp_in_nI (by omega) (by omega), qb_br (fun e1 => nm_e ?_) (fun e1 => ⟨vp_in_nI (by omega) (by omega), qb_br (fun e2 => nm_e ?_) (fun e2 => ⟨vp_in_nI (by omega) (by omega), ?_⟩)⟩)⟩))
    · rw [decide_eq_false (fun z => z e), Bool.false_and, Bool.or_false] at hn
      exact hn
    · rw [e1, Bool.false_and, Bool.and_false, Bool.or_false] at hn
      exact hn
    · rw [e2, Bool.false_and, Bool.and_false, Bool.and_false, Bool.or_false] at hn
      exact hn
    · have c1 := h2 o (by omega) e1
      refine pk_le j (st o) (fun e3 => nm_e ?_) (fun e3 => nm_e ?_)
      · rw [decide_eq_false (show ¬ st o < j by omega), Bool.and_false, Bool.and_false, Bool.and_false, Bool.or_false] at hn
        exact hn
      · rw [decide_eq_true (show ¬ nI o = b from e), e1, e2, decide_eq_true e3, Bool.and_self, Bool.and_self, Bool.and_self, Bool.or_true] at hn
        exact hn
theorem wy_tr4 {post : Int32 → Prop} {b : Int32} (hC : C < 512) (h2 : ∀ s, s < 4 → op s = true → st s < 2 ^ 31) (h : post (nI (qc_c (fun j => kn j && qt_K op se st b j) (C + 1)))) : ∀ d j, 1 ≤ j → j + d = C + 1 → wY_tracked_4 post b g (nI C) (nI D) (nI H) (qn_F hc) (qn_F hk) hv (qb_F ht) (qn_F cs) cr cw (qb_F kn) (qb_F op) (qb_F se) (qn_F st) ry (qn_F yc) (qn_F ys) (qn_F wk) yv (qb_F yt) (qn_F sv) (d + 1) (nI (qc_c (fun j => kn j && qt_K op se st b j) j)) (nI j) := by
  intro d
  induction d with
  | zero =>
    intro j h1 hj
    rw [wY_tracked_4]
    refine pk_lt C j (fun _ => ?_) (fun h => absurd h (by omega))
    have : j = C + 1 := by omega
    rw [this]
    exact h
  | succ d ih =>
    intro j h1 hj
    rw [wY_tracked_4]
    refine pk_lt C j (fun h => absurd h (by omega)) (fun _ => ⟨5, ?_⟩)
    have hn := ih (j + 1) (by omega) (by omega)
    rw [qc_c] at hn
    exact wy_tr18 (by omega) h2 hn 4 0 (by omega)
theorem wy_tr {post : Int32 → Prop} {b : Int32} (hC : C < 512) (h2 : ∀ s, s < 4 → op s = true → st s < 2 ^ 31) (hk0 : kn 0 = false) (h : post (nI (qc_c (fun j => kn j && qt_K op se st b j) (C + 1)))) : wpY_tracked post (g, nI C, nI D, nI H, qn_F hc, qn_F hk, hv, qb_F ht, qn_F cs, cr, cw, qb_F kn, qb_F op, qb_F se, qn_F st, ry, qn_F yc, qn_F ys, qn_F wk, yv, qb_F yt, qn_F sv) b := by
  unfold wpY_tracked
  have hl := wy_tr4 (g := g) (D := D) (H := H) (hc := hc) (hk := hk) (hv := hv) (ht := ht) (cs := cs) (cr := cr) (cw := cw) (ry := ry) (yc := yc) (ys := ys) (wk := wk) (yv := yv) (yt := yt) (sv := sv) hC h2 h C 1 (by omega) (by omega)
  rw [qc_c, qc_c, hk0, Bool.false_and] at hl
  exact ⟨C + 1, hl⟩
theorem wy_co125 {post : Int32 → SY → Prop} {s n : Nat} (hs : s < 4) (hw : yc s ≤ 12) (hH : H + yc s ≤ 520) (h : (nI n - nI D < g → post 0 (g, nI n, nI D, nI (H + yc s), qn_F (qk_c hc (fun _ => n) H (yc s)), qn_F (qk_c hk (fun q => wk (12 * s + q)) H (yc s)), qk_c hv (fun q => yv (12 * s + q)) H (yc s), qb_F (qk_c ht (fun q => yt (12 * s + q)) H (yc s)), qn_F cs, cr, cw, qb_F kn, qb_F op, qb_F se, qn_F st, ry, qn_F yc, qn_F ys, qn_F wk, yv, qb_F yt, qn_F sv)) ∧ (¬ nI n - nI D < g → post 0 (g, nI n, nI n, nI (H + yc s), qn_F (qk_c hc (fun _ => n) H (yc s)), qn_F (qk_c hk (fun q => wk (12 * s + q)) H (yc s)), qk_c hv (fun q => yv (12 * s + q)) H (yc s), qb_F (qk_c ht (fun q => yt (12 * s + q)) H (yc s)), qn_F cs, cr, cw, qb_F kn, qb_F op, qb_F se, qn_F st, ry, qn_F yc, qn_F ys, qn_F wk, yv, qb_F yt, qn_F sv))) : ∀ d i, i + d = yc s → wY_commit_125 post (nI s) (nI n) g (nI C) (nI D) (d + 1) (nI (12 * s + i)) (nI (H + i)) (qn_F (qk_c hc (fun _ => n) H i)) (qn_F (qk_c hk (fun q => wk (12 * s + q)) H i)) (qk_c hv (fun q => yv (12 * s + q)) H i) (qb_F (qk_c ht (fun q => yt (12 * s + q)) H i)) (qn_F cs) cr cw (qb_F kn) (qb_F op) (qb_F se) (qn_F st) ry (qn_F yc) (qn_F ys) (qn_F wk) yv (qb_F yt) (qn_F sv) := by
  intro d
  induction d with
  | zero =>
    intro i hi
    rw [wY_commit_125]
    simp only [nI_clamp (show s < 2 ^ 31 by omega), qn_at, qi_12]
    refine ⟨vp_in_nI hs (by omega), pk_le (12 * s + yc s) (12 * s + i) (fun _ => ?_) (fun h => absurd h (by omega))⟩
    have : i = yc s := by omega
    rw [this]
    exact h
  | succ d ih =>
    intro i hi
    have hn := ih (i + 1) (by omega)
    have e1 : qu_p (qk_c hc (fun _ => n) H i) (H + i) n = qk_c hc (fun _ => n) H (i + 1) := qk_s (d := hc) (src := fun _ => n)
    have e2 : qu_p (qk_c hk (fun q => wk (12 * s + q)) H i) (H + i) (wk (12 * s + i)) = qk_c hk (fun q => wk (12 * s + q)) H (i + 1) := qk_s (d := hk) (src := fun q => wk (12 * s + q))
    have e3 : upd (qk_c hv (fun q => yv (12 * s + q)) H i) (H + i) (yv (12 * s + i)) = qk_c hv (fun q => yv (12 * s + q)) H (i + 1) := qk_s (d := hv) (src := fun q => yv (12 * s + q))
    have e4 : qu_p (qk_c ht (fun q => yt (12 * s + q)) H i) (H + i) (yt (12 * s + i)) = qk_c ht (fun q => yt (12 * s + q)) H (i + 1) := qk_s (d := ht) (src := fun q => yt (12 * s + q))
    have hi5 : vp_in (nI (12 * s + i)) 48 := vp_in_nI (by omega) (by omega)
    have hh5 : vp_in (nI (H + i)) 520 := vp_in_nI (by omega) (by omega)
    rw [wY_commit_125]
    simp only [nI_clamp (show s < 2 ^ 31 by omega), qn_at, qb_at, qi_12, nI_clamp (show 12 * s + i < 2 ^ 31 by omega), nI_clamp (show H + i < 2 ^ 31 by omega), nI_1, qb_nar, qb_U, qn_U, e1, e2, e3, e4]
    exact ⟨vp_in_nI hs (by omega), pk_le (12 * s + yc s) (12 * s + i) (fun h => absurd h (by omega)) (fun _ => ⟨hh5, nm_e ⟨hi5, hh5, nm_e ⟨hi5, hh5, nm_e ⟨hi5, hh5, nm_e (nm_e (nm_e hn))⟩⟩⟩⟩)⟩
theorem wy_cr55 {post : Int32 → SY → Prop} (hH : H ≤ 520) (hD : D < 2 ^ 31) (hh : ∀ i, i < H → hc i < 2 ^ 31) (h : post (nI C) (g, nI C, nI D, nI (qc_c (fun i => decide (hc i ≤ D)) H), qn_F hc, qn_F hk, hv, qb_F ht, qn_F cs, cr, cw, qb_F kn, qb_F op, qb_F se, qn_F st, ry, qn_F yc, qn_F ys, qn_F wk, yv, qb_F yt, qn_F sv)) : ∀ d i, i + d = H → wY_crash_55 post g (nI C) (nI D) (nI H) (qn_F hc) (qn_F hk) hv (qb_F ht) (qn_F cs) cr cw (qb_F kn) (qb_F op) (qb_F se) (qn_F st) ry (qn_F yc) (qn_F ys) (qn_F wk) yv (qb_F yt) (qn_F sv) (d + 1) (nI (qc_c (fun i => decide (hc i ≤ D)) i)) (nI i) := by
  intro d
  induction d with
  | zero =>
    intro i hi
    rw [wY_crash_55]
    refine pk_le H i (fun _ => ?_) (fun h => absurd h (by omega))
    have : i = H := by omega
    rw [this]
    exact h
  | succ d ih =>
    intro i hi
    have hn := ih (i + 1) (by omega)
    have c1 := hh i (by omega)
    rw [qc_c] at hn
    rw [wY_crash_55]
    simp only [nI_clamp (show i < 2 ^ 31 by omega), qn_at, nI_1]
    refine pk_le H i (fun h => absurd h (by omega)) (fun _ => ⟨vp_in_nI (by omega) (by omega), pk_lt D (hc i) (fun e => nm_e ?_) (fun e => nm_e (nm_e ?_))⟩)
    · rw [if_neg (by rw [decide_eq_false (by omega)]; decide), Nat.add_zero] at hn
      exact hn
    · rw [if_pos (decide_eq_true e)] at hn
      exact hn
theorem wy_cr22 {post : Int32 → SY → Prop} (hC : C < 512) (hH : H ≤ 520) (hD : D < 2 ^ 31) (hh : ∀ i, i < H → hc i < 2 ^ 31) (h : post (nI D) (g, nI D, nI D, nI (qc_c (fun i => decide (hc i ≤ D)) H), qn_F hc, qn_F hk, hv, qb_F ht, qn_F cs, cr, cw, qb_F (qk_c kn (fun _ => false) 1 C), qb_F op, qb_F se, qn_F st, ry, qn_F yc, qn_F ys, qn_F wk, yv, qb_F yt, qn_F sv)) : ∀ d i, i + d = C → wY_crash_22 post g (nI C) (nI D) (nI H) (d + 1) (nI (1 + i)) (qn_F hc) (qn_F hk) hv (qb_F ht) (qn_F cs) cr cw (qb_F (qk_c kn (fun _ => false) 1 i)) (qb_F op) (qb_F se) (qn_F st) ry (qn_F yc) (qn_F ys) (qn_F wk) yv (qb_F yt) (qn_F sv) := by
  intro d
  induction d with
  | zero =>
    intro i hi
    have : i = C := by omega
    subst this
    rw [wY_crash_22]
    exact pk_lt i (1 + i) (fun _ => ⟨H + 1, wy_cr55 hH hD hh h H 0 (by omega)⟩) (fun h => absurd h (by omega))
  | succ d ih =>
    intro i hi
    have e : qu_p (qk_c kn (fun _ => false) 1 i) (1 + i) false = qk_c kn (fun _ => false) 1 (i + 1) := qk_s (d := kn) (src := fun _ => false)
    rw [wY_crash_22]
    simp only [nI_clamp (show 1 + i < 2 ^ 31 by omega), nI_1, qb_nar0, qb_U, e]
    exact pk_lt C (1 + i) (fun h => absurd h (by omega)) (fun _ => ⟨vp_in_nI (by omega) (by omega), nm_e (nm_e (ih (i + 1) (by omega)))⟩)
theorem wy_cr2 {post : Int32 → SY → Prop} (hC : C < 512) (hH : H ≤ 520) (hD : D < 2 ^ 31) (hh : ∀ i, i < H → hc i < 2 ^ 31) (h : post (nI D) (g, nI D, nI D, nI (qc_c (fun i => decide (hc i ≤ D)) H), qn_F hc, qn_F hk, hv, qb_F ht, qn_F cs, cr, cw, qb_F (qk_c kn (fun _ => false) 1 C), qb_F (qk_c op (fun _ => false) 0 4), qb_F se, qn_F st, ry, qn_F yc, qn_F ys, qn_F wk, yv, qb_F yt, qn_F sv)) : ∀ d i, i + d = 4 → wY_crash_2 post g (nI C) (nI D) (nI H) (d + 1) (nI i) (qn_F hc) (qn_F hk) hv (qb_F ht) (qn_F cs) cr cw (qb_F kn) (qb_F (qk_c op (fun _ => false) 0 i)) (qb_F se) (qn_F st) ry (qn_F yc) (qn_F ys) (qn_F wk) yv (qb_F yt) (qn_F sv) := by
  intro d
  induction d with
  | zero =>
    intro i hi
    have : i = 4 := by omega
    subst this
    have hl := wy_cr22 hC hH hD hh h C 0 (by omega)
    rw [qk_0] at hl
    rw [wY_crash_2]
    exact pk_le 4 4 (fun _ => ⟨C + 1, hl⟩) (fun h => absurd h (by omega))
  | succ d ih =>
    intro i hi
    have e : qu_p (qk_c op (fun _ => false) 0 i) i false = qk_c op (fun _ => false) 0 (i + 1) := qk_s0 (d := op) (src := fun _ => false)
    rw [wY_crash_2]
    simp only [nI_clamp (show i < 2 ^ 31 by omega), nI_1, qb_nar0, qb_U, e]
    exact pk_le 4 i (fun h => absurd h (by omega)) (fun _ => ⟨vp_in_nI (by omega) (by omega), nm_e (nm_e (ih (i + 1) (by omega)))⟩)
theorem wy_crash {post : Int32 → SY → Prop} (hC : C < 512) (hH : H ≤ 520) (hD : D < 2 ^ 31) (hh : ∀ i, i < H → hc i < 2 ^ 31) (h : post (nI D) (g, nI D, nI D, nI (qc_c (fun i => decide (hc i ≤ D)) H), qn_F hc, qn_F hk, hv, qb_F ht, qn_F cs, cr, cw, qb_F (qk_c kn (fun _ => false) 1 C), qb_F (qk_c op (fun _ => false) 0 4), qb_F se, qn_F st, ry, qn_F yc, qn_F ys, qn_F wk, yv, qb_F yt, qn_F sv)) : wpY_crash post (g, nI C, nI D, nI H, qn_F hc, qn_F hk, hv, qb_F ht, qn_F cs, cr, cw, qb_F kn, qb_F op, qb_F se, qn_F st, ry, qn_F yc, qn_F ys, qn_F wk, yv, qb_F yt, qn_F sv) := by
  unfold wpY_crash
  have hl := wy_cr2 hC hH hD hh h 4 0 (by omega)
  rw [qk_0] at hl
  exact ⟨5, hl⟩
theorem qp_pos : ∀ n y, 0 < y → y < 2 ^ n → 0 < qp_c n y := fun n y h0 h1 => by
  have := qp_clr n y h0 h1
  omega
theorem qp_dec (x : Int64) (h : 0 < x.toBitVec.toNat) : (x - 1).toBitVec.toNat = x.toBitVec.toNat - 1 := by
  have hlt := x.toBitVec.isLt
  have e : (x - 1).toBitVec = x.toBitVec - 1#64 := rfl
  rw [e, BitVec.toNat_sub, show (1#64).toNat = 1 from rfl]
  generalize x.toBitVec.toNat = y at *
  omega
theorem wy_ct64 {post : Int32 → Prop} : ∀ d (x : Int64) (a : Nat), qp_c 64 x.toBitVec.toNat = d → post (nI (a + d)) → wY_count_64 post g (nI C) (nI D) (nI H) (qn_F hc) (qn_F hk) hv (qb_F ht) (qn_F cs) cr cw (qb_F kn) (qb_F op) (qb_F se) (qn_F st) ry (qn_F yc) (qn_F ys) (qn_F wk) yv (qb_F yt) (qn_F sv) (d + 1) (nI a) x := by
  have hz (x : Int64) : x = 0 ↔ x.toBitVec.toNat = 0 := by
    rw [← Int64.toBitVec_inj]
    show x.toBitVec = 0#64 ↔ _
    constructor
    · intro h; rw [h]; rfl
    · intro h; exact BitVec.eq_of_toNat_eq h
  intro d
  induction d with
  | zero =>
    intro x a hx h
    have h0 : x.toBitVec.toNat = 0 := by
      rcases Nat.eq_zero_or_pos x.toBitVec.toNat with h | h
      · exact h
      · have := qp_pos 64 _ h x.toBitVec.isLt
        omega
    rw [wY_count_64]
    exact br_t ((hz x).mpr h0) h
  | succ d ih =>
    intro x a hx h
    have h0 : ¬ x.toBitVec.toNat = 0 := fun z => by
      rw [z] at hx
      exact absurd hx (by simp [qp_c])
    have hlt := x.toBitVec.isLt
    have e : (x &&& (x - 1)).toBitVec.toNat = x.toBitVec.toNat &&& (x.toBitVec.toNat - 1) := by
      rw [Int64.toBitVec_and, BitVec.toNat_and, qp_dec x (by omega)]
    have hq := qp_clr 64 x.toBitVec.toNat (by omega) hlt
    rw [wY_count_64]
    simp only [nI_1]
    refine br_f (fun z => h0 ((hz x).mp z)) (nm_e (nm_e (ih _ (a + 1) (by rw [e]; omega) ?_)))
    rw [show a + 1 + d = a + (d + 1) by omega]
    exact h
end
