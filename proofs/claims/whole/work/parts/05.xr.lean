section
variable {g : Int32} {C D H : Nat} {ro dr sn rx wr pr pw cr cw ry : Nat → Int64} {lw st wc wk sc sv pn hc hk cs yc ys : Nat → Nat} {op se pO pI ht kn yt : Nat → Bool} {hv yv : Nat → Int32}
theorem wx_ap2 {post : SX → Prop} {s : Nat} (hs : s < 4) (hw : wc s ≤ 12) (hp : ∀ p, p < wc s → wk (12 * s + p) < 64) (h : post (g, nI C, nI D, qr_R wk wr (12 * s) ro (wc s), dr, qn_F (qr_N wk C (12 * s) lw (wc s)), qb_F op, qb_F se, qn_F st, sn, rx, qn_F wc, qn_F wk, wr, qn_F sc, qn_F sv, qn_F pn, pr, pw, qb_F pO, qb_F pI)) : ∀ d i, i + d = wc s → wX_applyWrites_2 post (nI s) g (nI C) (nI D) (d + 1) (nI i) (qr_R wk wr (12 * s) ro i) dr (qn_F (qr_N wk C (12 * s) lw i)) (qb_F op) (qb_F se) (qn_F st) sn rx (qn_F wc) (qn_F wk) wr (qn_F sc) (qn_F sv) (qn_F pn) pr pw (qb_F pO) (qb_F pI) := by
  intro d
  induction d with
  | zero =>
    intro i hi
    rw [wX_applyWrites_2]
    simp only [nI_clamp (show s < 2 ^ 31 by omega), qn_at]
    refine ⟨vp_in_nI hs (by omega), pk_le (wc s) i (fun _ => ?_) (fun h => absurd h (by omega))⟩
    have : i = wc s := by omega
    rw [this]
    exact h
  | succ d ih =>
    intro i hi
    have h64 := hp i (by omega)
    rw [wX_applyWrites_2]
    simp only [nI_clamp (show s < 2 ^ 31 by omega), qn_at, qi_12, nI_clamp (show 12 * s + i < 2 ^ 31 by omega), nI_1, qu_L]
    refine ⟨vp_in_nI hs (by omega), pk_le (wc s) i (fun h => absurd h (by omega)) (fun _ => ⟨vp_in_nI (by omega) (by omega), nm_e ⟨vp_in_nI (by omega) (by omega), vp_in_nI h64 (by omega), nm_e ⟨vp_in_nI h64 (by omega), nm_e (nm_e ?_)⟩⟩⟩)⟩
    rw [nI_clamp (show wk (12 * s + i) < 2 ^ 31 by omega), qn_U]
    exact ih (i + 1) (by omega)
theorem wx_ap {post : SX → Prop} {s : Nat} (hs : s < 4) (hw : wc s ≤ 12) (hp : ∀ p, p < wc s → wk (12 * s + p) < 64) (h : post (g, nI C, nI D, qr_R wk wr (12 * s) ro (wc s), dr, qn_F (qr_N wk C (12 * s) lw (wc s)), qb_F op, qb_F se, qn_F st, sn, rx, qn_F wc, qn_F wk, wr, qn_F sc, qn_F sv, qn_F pn, pr, pw, qb_F pO, qb_F pI)) : wpX_applyWrites post (g, nI C, nI D, ro, dr, qn_F lw, qb_F op, qb_F se, qn_F st, sn, rx, qn_F wc, qn_F wk, wr, qn_F sc, qn_F sv, qn_F pn, pr, pw, qb_F pO, qb_F pI) (nI s) := by
  unfold wpX_applyWrites
  exact ⟨wc s + 1, wx_ap2 hs hw hp h (wc s) 0 (by omega)⟩
theorem wx_re43 {post : SX → Prop} {J : Int32 → Int32 → Int32 → (Nat → Int64) → (Nat → Int64) → (Nat → Int32) → (Nat → Int32) → (Nat → Int32) → (Nat → Int32) → (Nat → Int64) → (Nat → Int64) → (Nat → Int32) → (Nat → Int32) → (Nat → Int64) → (Nat → Int32) → (Nat → Int32) → (Nat → Int32) → (Nat → Int64) → (Nat → Int64) → (Nat → Int32) → (Nat → Int32) → Prop} {w : Int64} {x4 : Int32} {b5 : Bool} {s i : Nat} (hs : s < 4) (hi : i < 8) (h1 : st s < 2 ^ 31) (h2 : pn i < 2 ^ 31) (hj : J x4 (qb_i (b5 || qt_R st pn pr w s i)) (nI (i + 1)) ro dr (qn_F lw) (qb_F op) (qb_F se) (qn_F st) sn rx (qn_F wc) (qn_F wk) wr (qn_F sc) (qn_F sv) (qn_F pn) pr pw (qb_F (qf_m pO (qt_R st pn pr w s) (i + 1))) (qb_F pI)) : wX_remember_43 post J (nI s) w x4 (qb_i b5) (nI i) g (nI C) (nI D) ro dr (qn_F lw) (qb_F op) (qb_F se) (qn_F st) sn rx (qn_F wc) (qn_F wk) wr (qn_F sc) (qn_F sv) (qn_F pn) pr pw (qb_F (qf_m pO (qt_R st pn pr w s) i)) (qb_F pI) := by
  unfold wX_remember_43
  refine wx_fr hs hi h1 h2 ?_
  simp only [nI_clamp (show i < 2 ^ 31 by omega), nI_1, qb_nar1, qb_U]
  refine qb_br (fun e => nm_e ?_) (fun e => ⟨vp_in_nI hi (by omega), nm_e (nm_e ?_)⟩)
  · rw [e, Bool.or_false, ← qf_f e] at hj
    exact hj
  · rw [e, Bool.or_true, ← qf_t e] at hj
    exact hj
theorem wx_re15 {post : SX → Prop} {w : Int64} {s : Nat} (hs : s < 4) (h1 : ∀ s, s < 4 → op s = true → st s < 2 ^ 31) (ho : op s = true) (h2 : ∀ i, i < 8 → pn i < 2 ^ 31) (hx : ∃ f, f < 8 ∧ qt_K op se st (nI s) (pn f) = false) (h : ∀ f, f < 8 → qt_K op se st (nI s) (pn f) = false → post (g, nI C, nI D, ro, dr, qn_F lw, qb_F op, qb_F se, qn_F st, sn, rx, qn_F wc, qn_F wk, wr, qn_F sc, qn_F sv, qn_F (qu_p pn f C), qu_p pr f (rx s), qu_p pw f w, qb_F (qu_p (qf_m pO (qt_R st pn pr w s) 8) f (qe_x (qt_T st pn rx pw s) 8)), qb_F (qu_p (qf_m pI (qt_T st pn rx pw s) 8) f (qe_x (qt_R st pn pr w s) 8)))) : ∀ d i, i + d = 8 → wX_remember_15 post (nI s) w g (nI C) (nI D) (d + 1) (qb_i (qe_x (qt_T st pn rx pw s) i)) (qb_i (qe_x (qt_R st pn pr w s) i)) (nI i) ro dr (qn_F lw) (qb_F op) (qb_F se) (qn_F st) sn rx (qn_F wc) (qn_F wk) wr (qn_F sc) (qn_F sv) (qn_F pn) pr pw (qb_F (qf_m pO (qt_R st pn pr w s) i)) (qb_F (qf_m pI (qt_T st pn rx pw s) i)) := by
  intro d
  induction d with
  | zero =>
    intro i hi
    have hi8 : i = 8 := by omega
    subst hi8
    rw [wX_remember_15]
    refine pk_le 8 8 (fun _ => ?_) (fun h => absurd h (by omega))
    refine wx_us h1 h2 hx (fun f hf e => ?_)
    simp only [nI_clamp (show s < 2 ^ 31 by omega), nI_clamp (show f < 2 ^ 31 by omega), qn_U, qu_L, qb_nar, qb_U]
    exact ⟨vp_in_nI hf (by omega), nm_e ⟨vp_in_nI hs (by omega), vp_in_nI hf (by omega), nm_e ⟨vp_in_nI hf (by omega), nm_e ⟨vp_in_nI hf (by omega), nm_e ⟨vp_in_nI hf (by omega), nm_e (h f hf e)⟩⟩⟩⟩⟩
  | succ d ih =>
    intro i hi
    rw [wX_remember_15]
    refine pk_le 8 i (fun h => absurd h (by omega)) (fun _ => ?_)
    refine wx_to hs (by omega) (h1 s hs ho) (h2 i (by omega)) ?_
    simp only [nI_clamp (show i < 2 ^ 31 by omega), qb_nar1, qb_U]
    have hn := ih (i + 1) (by omega)
    rw [qe_x, qe_x] at hn
    refine qb_br (fun e => ?_) (fun e => ⟨vp_in_nI (by omega) (by omega), nm_e ?_⟩)
    · refine wx_re43 hs (by omega) (h1 s hs ho) (h2 i (by omega)) ?_
      rw [e, Bool.or_false, ← qf_f e] at hn
      exact hn
    · refine wx_re43 hs (by omega) (h1 s hs ho) (h2 i (by omega)) ?_
      rw [e, Bool.or_true, ← qf_t e] at hn
      exact hn
theorem wx_rem {post : SX → Prop} {s : Nat} (hs : s < 4) (hw : wc s ≤ 12) (h1 : ∀ s, s < 4 → op s = true → st s < 2 ^ 31) (ho : op s = true) (h2 : ∀ i, i < 8 → pn i < 2 ^ 31) (hx : ∃ f, f < 8 ∧ qt_K op se st (nI s) (pn f) = false) (h : ∀ f, f < 8 → qt_K op se st (nI s) (pn f) = false → post (g, nI C, nI D, ro, dr, qn_F lw, qb_F op, qb_F se, qn_F st, sn, rx, qn_F wc, qn_F wk, wr, qn_F sc, qn_F sv, qn_F (qu_p pn f C), qu_p pr f (rx s), qu_p pw f (qm_s wk (12 * s) (wc s)), qb_F (qu_p (qf_m pO (qt_R st pn pr (qm_s wk (12 * s) (wc s)) s) 8) f (qe_x (qt_T st pn rx pw s) 8)), qb_F (qu_p (qf_m pI (qt_T st pn rx pw s) 8) f (qe_x (qt_R st pn pr (qm_s wk (12 * s) (wc s)) s) 8)))) : wpX_remember post (g, nI C, nI D, ro, dr, qn_F lw, qb_F op, qb_F se, qn_F st, sn, rx, qn_F wc, qn_F wk, wr, qn_F sc, qn_F sv, qn_F pn, pr, pw, qb_F pO, qb_F pI) (nI s) := by
  unfold wpX_remember
  dsimp only
  refine wx_writeSet hs hw ?_
  have hl := wx_re15 (g := g) (D := D) (ro := ro) (dr := dr) (lw := lw) (sn := sn) (wc := wc) (wk := wk) (wr := wr) (sc := sc) (sv := sv) hs h1 ho h2 hx h 8 0 (by omega)
  rw [qf_0, qf_0] at hl
  exact ⟨9, hl⟩
theorem wx_md10 {post : SX → Prop} (h : post (g, nI C, nI D, ro, qk_c dr ro 0 64, qn_F lw, qb_F op, qb_F se, qn_F st, sn, rx, qn_F wc, qn_F wk, wr, qn_F sc, qn_F sv, qn_F pn, pr, pw, qb_F pO, qb_F pI)) : ∀ d i, i + d = 64 → wX_makeDurable_10 post g (nI C) (nI D) (d + 1) (nI i) ro (qk_c dr ro 0 i) (qn_F lw) (qb_F op) (qb_F se) (qn_F st) sn rx (qn_F wc) (qn_F wk) wr (qn_F sc) (qn_F sv) (qn_F pn) pr pw (qb_F pO) (qb_F pI) := by
  intro d
  induction d with
  | zero =>
    intro i hi
    have hi8 : i = 64 := by omega
    subst hi8
    rw [wX_makeDurable_10]
    exact pk_le 64 64 (fun _ => h) (fun h => absurd h (by omega))
  | succ d ih =>
    intro i hi
    rw [wX_makeDurable_10]
    simp only [nI_clamp (show i < 2 ^ 31 by omega), nI_1, qu_L, qk_s0]
    exact pk_le 64 i (fun h => absurd h (by omega)) (fun _ => ⟨vp_in_nI (by omega) (by omega), vp_in_nI (by omega) (by omega), nm_e (nm_e (ih (i + 1) (by omega)))⟩)
theorem wx_md {post : SX → Prop} (h : post (g, nI C, nI C, ro, qk_c dr ro 0 64, qn_F lw, qb_F op, qb_F se, qn_F st, sn, rx, qn_F wc, qn_F wk, wr, qn_F sc, qn_F sv, qn_F pn, pr, pw, qb_F pO, qb_F pI)) : wpX_makeDurable post (g, nI C, nI D, ro, dr, qn_F lw, qb_F op, qb_F se, qn_F st, sn, rx, qn_F wc, qn_F wk, wr, qn_F sc, qn_F sv, qn_F pn, pr, pw, qb_F pO, qb_F pI) := by
  unfold wpX_makeDurable
  have hl := wx_md10 h 64 0 (by omega)
  rw [qk_0] at hl
  exact ⟨65, hl⟩
theorem wx_in172 {post : SX → Prop} (h : post (g, nI C, nI D, qk_c ro (fun _ => 1000000000000) 0 64, qk_c dr (fun _ => 1000000000000) 0 64, qn_F lw, qb_F op, qb_F se, qn_F st, sn, rx, qn_F wc, qn_F wk, wr, qn_F sc, qn_F sv, qn_F pn, pr, pw, qb_F pO, qb_F pI)) : ∀ d i, i + d = 64 → wX_init_172 post g (nI C) (nI D) (d + 1) (nI i) (qk_c ro (fun _ => 1000000000000) 0 i) (qk_c dr (fun _ => 1000000000000) 0 i) (qn_F lw) (qb_F op) (qb_F se) (qn_F st) sn rx (qn_F wc) (qn_F wk) wr (qn_F sc) (qn_F sv) (qn_F pn) pr pw (qb_F pO) (qb_F pI) := by
  intro d
  induction d with
  | zero =>
    intro i hi
    have hi8 : i = 64 := by omega
    subst hi8
    rw [wX_init_172]
    exact pk_le 64 64 (fun _ => h) (fun h => absurd h (by omega))
  | succ d ih =>
    intro i hi
    have e (a : Nat → Int64) : vp_updL (qk_c a (fun _ => 1000000000000) 0 i) i 1000000000000 = qk_c a (fun _ => 1000000000000) 0 (i + 1) := qk_s0 (d := a) (src := fun _ => 1000000000000)
    rw [wX_init_172]
    simp only [nI_clamp (show i < 2 ^ 31 by omega), nI_1, e]
    exact pk_le 64 i (fun h => absurd h (by omega)) (fun _ => ⟨vp_in_nI (by omega) (by omega), nm_e ⟨vp_in_nI (by omega) (by omega), nm_e (nm_e (ih (i + 1) (by omega)))⟩⟩)
theorem wx_be46 {post : Int32 → SX → Prop} {s : Nat} (hs : s < 4) (h : post 0 (g, nI C, nI D, ro, dr, qn_F lw, qb_F op, qb_F se, qn_F st, qk_c sn ro (64 * s) 64, rx, qn_F wc, qn_F wk, wr, qn_F sc, qn_F sv, qn_F pn, pr, pw, qb_F pO, qb_F pI)) : ∀ d i, i + d = 64 → wX_begin_46 post (nI s) g (nI C) (nI D) (d + 1) (nI i) ro dr (qn_F lw) (qb_F op) (qb_F se) (qn_F st) (qk_c sn ro (64 * s) i) rx (qn_F wc) (qn_F wk) wr (qn_F sc) (qn_F sv) (qn_F pn) pr pw (qb_F pO) (qb_F pI) := by
  intro d
  induction d with
  | zero =>
    intro i hi
    have hi8 : i = 64 := by omega
    subst hi8
    rw [wX_begin_46]
    exact pk_le 64 64 (fun _ => h) (fun h => absurd h (by omega))
  | succ d ih =>
    intro i hi
    rw [wX_begin_46]
    simp only [nI_clamp (show i < 2 ^ 31 by omega), nI_1, qi_64, nI_clamp (show 64 * s + i < 2 ^ 31 by omega), qu_L, qk_s]
    exact pk_le 64 i (fun h => absurd h (by omega)) (fun _ => ⟨vp_in_nI (by omega) (by omega), vp_in_nI (by omega) (by omega), nm_e (nm_e (ih (i + 1) (by omega)))⟩)
theorem wx_cr61 {post : Int32 → SX → Prop} (h : post (nI C) (g, nI C, nI D, ro, dr, qn_F lw, qb_F op, qb_F se, qn_F st, sn, rx, qn_F wc, qn_F wk, wr, qn_F sc, qn_F sv, qn_F (qk_c pn (fun _ => 0) 0 8), pr, pw, qb_F pO, qb_F pI)) : ∀ d i, i + d = 8 → wX_crash_61 post g (nI C) (nI D) (d + 1) (nI i) ro dr (qn_F lw) (qb_F op) (qb_F se) (qn_F st) sn rx (qn_F wc) (qn_F wk) wr (qn_F sc) (qn_F sv) (qn_F (qk_c pn (fun _ => 0) 0 i)) pr pw (qb_F pO) (qb_F pI) := by
  intro d
  induction d with
  | zero =>
    intro i hi
    have hi8 : i = 8 := by omega
    subst hi8
    rw [wX_crash_61]
    exact pk_le 8 8 (fun _ => h) (fun h => absurd h (by omega))
  | succ d ih =>
    intro i hi
    have e : qu_p (qk_c pn (fun _ => 0) 0 i) i 0 = qk_c pn (fun _ => 0) 0 (i + 1) := qk_s0 (d := pn) (src := fun _ => 0)
    rw [wX_crash_61]
    simp only [nI_clamp (show i < 2 ^ 31 by omega), nI_1, qn_U0, e]
    exact pk_le 8 i (fun h => absurd h (by omega)) (fun _ => ⟨vp_in_nI (by omega) (by omega), nm_e (nm_e (ih (i + 1) (by omega)))⟩)
theorem wx_cr28 {post : Int32 → SX → Prop} (h : post (nI C) (g, nI C, nI D, qk_c ro dr 0 64, dr, qn_F (qk_c lw (fun _ => 0) 0 64), qb_F op, qb_F se, qn_F st, sn, rx, qn_F wc, qn_F wk, wr, qn_F sc, qn_F sv, qn_F (qk_c pn (fun _ => 0) 0 8), pr, pw, qb_F pO, qb_F pI)) : ∀ d i, i + d = 64 → wX_crash_28 post g (nI C) (nI D) (d + 1) (nI i) (qk_c ro dr 0 i) dr (qn_F (qk_c lw (fun _ => 0) 0 i)) (qb_F op) (qb_F se) (qn_F st) sn rx (qn_F wc) (qn_F wk) wr (qn_F sc) (qn_F sv) (qn_F pn) pr pw (qb_F pO) (qb_F pI) := by
  intro d
  induction d with
  | zero =>
    intro i hi
    have hi8 : i = 64 := by omega
    subst hi8
    rw [wX_crash_28]
    have hl := wx_cr61 h 8 0 (by omega)
    rw [qk_0] at hl
    exact pk_le 64 64 (fun _ => ⟨9, hl⟩) (fun h => absurd h (by omega))
  | succ d ih =>
    intro i hi
    have e : qu_p (qk_c lw (fun _ => 0) 0 i) i 0 = qk_c lw (fun _ => 0) 0 (i + 1) := qk_s0 (d := lw) (src := fun _ => 0)
    rw [wX_crash_28]
    simp only [nI_clamp (show i < 2 ^ 31 by omega), nI_1, qn_U0, e, qu_L, qk_s0]
    exact pk_le 64 i (fun h => absurd h (by omega)) (fun _ => ⟨vp_in_nI (by omega) (by omega), vp_in_nI (by omega) (by omega), nm_e ⟨vp_in_nI (by omega) (by omega), nm_e (nm_e (ih (i + 1) (by omega)))⟩⟩)
theorem wx_cr2 {post : Int32 → SX → Prop} (h : post (nI D) (g, nI D, nI D, qk_c ro dr 0 64, dr, qn_F (qk_c lw (fun _ => 0) 0 64), qb_F (qk_c op (fun _ => false) 0 4), qb_F se, qn_F st, sn, qk_c rx (fun _ => 0) 0 4, qn_F (qk_c wc (fun _ => 0) 0 4), qn_F wk, wr, qn_F (qk_c sc (fun _ => 0) 0 4), qn_F sv, qn_F (qk_c pn (fun _ => 0) 0 8), pr, pw, qb_F pO, qb_F pI)) : ∀ d i, i + d = 4 → wX_crash_2 post (d + 1) (nI i) g (nI C) (nI D) ro dr (qn_F lw) (qb_F (qk_c op (fun _ => false) 0 i)) (qb_F se) (qn_F st) sn (qk_c rx (fun _ => 0) 0 i) (qn_F (qk_c wc (fun _ => 0) 0 i)) (qn_F wk) wr (qn_F (qk_c sc (fun _ => 0) 0 i)) (qn_F sv) (qn_F pn) pr pw (qb_F pO) (qb_F pI) := by
  intro d
  induction d with
  | zero =>
    intro i hi
    have hi8 : i = 4 := by omega
    subst hi8
    rw [wX_crash_2]
    have hl := wx_cr28 h 64 0 (by omega)
    rw [qk_0, qk_0] at hl
    exact pk_le 4 4 (fun _ => ⟨65, hl⟩) (fun h => absurd h (by omega))
  | succ d ih =>
    intro i hi
    rw [wX_crash_2]
    refine pk_le 4 i (fun h => absurd h (by omega)) (fun _ => wx_end (by omega) ?_)
    simp only [nI_1]
    have e1 : qu_p (qk_c op (fun _ => false) 0 i) i false = qk_c op (fun _ => false) 0 (i + 1) := qk_s0 (d := op) (src := fun _ => false)
    have e2 : qu_p (qk_c rx (fun _ => 0) 0 i) i 0 = qk_c rx (fun _ => 0) 0 (i + 1) := qk_s0 (d := rx) (src := fun _ => 0)
    have e3 : qu_p (qk_c wc (fun _ => 0) 0 i) i 0 = qk_c wc (fun _ => 0) 0 (i + 1) := qk_s0 (d := wc) (src := fun _ => 0)
    have e4 : qu_p (qk_c sc (fun _ => 0) 0 i) i 0 = qk_c sc (fun _ => 0) 0 (i + 1) := qk_s0 (d := sc) (src := fun _ => 0)
    rw [e1, e2, e3, e4]
    exact nm_e (ih (i + 1) (by omega))
theorem wx_crash {post : Int32 → SX → Prop} (h : post (nI D) (g, nI D, nI D, qk_c ro dr 0 64, dr, qn_F (qk_c lw (fun _ => 0) 0 64), qb_F (qk_c op (fun _ => false) 0 4), qb_F se, qn_F st, sn, qk_c rx (fun _ => 0) 0 4, qn_F (qk_c wc (fun _ => 0) 0 4), qn_F wk, wr, qn_F (qk_c sc (fun _ => 0) 0 4), qn_F sv, qn_F (qk_c pn (fun _ => 0) 0 8), pr, pw, qb_F pO, qb_F pI)) : wpX_crash post (g, nI C, nI D, ro, dr, qn_F lw, qb_F op, qb_F se, qn_F st, sn, rx, qn_F wc, qn_F wk, wr, qn_F sc, qn_F sv, qn_F pn, pr, pw, qb_F pO, qb_F pI) := by
  unfold wpX_crash
  have hl := wx_cr2 (C := C) h 4 0 (by omega)
  rw [qk_0, qk_0, qk_0, qk_0] at hl
  exact ⟨5, hl⟩
theorem wx_wk4 {post : Int32 → Prop} {s : Nat} (hs : s < 4) (hw : wc s ≤ 12) (hp : ∀ p, p < wc s → wk (12 * s + p) < 64) (h : post (nI (qc_c (fun key => qw_W wk (12 * s) key (wc s)) 64))) : ∀ d i, i + d = 64 → wX_writtenKeys_4 post (nI s) g (nI C) (nI D) ro dr (qn_F lw) (qb_F op) (qb_F se) (qn_F st) sn rx (qn_F wc) (qn_F wk) wr (qn_F sc) (qn_F sv) (qn_F pn) pr pw (qb_F pO) (qb_F pI) (d + 1) (nI (qc_c (fun key => qw_W wk (12 * s) key (wc s)) i)) (nI i) := by
  intro d
  induction d with
  | zero =>
    intro i hi
    have hi8 : i = 64 := by omega
    subst hi8
    rw [wX_writtenKeys_4]
    exact pk_le 64 64 (fun _ => h) (fun h => absurd h (by omega))
  | succ d ih =>
    intro i hi
    rw [wX_writtenKeys_4]
    simp only [nI_1]
    refine pk_le 64 i (fun h => absurd h (by omega)) (fun _ => ?_)
    refine wx_hasWritten hs hw hp (by omega) ?_
    have hn := ih (i + 1) (by omega)
    rw [qc_c] at hn
    refine qb_br (fun e => nm_e ?_) (fun e => nm_e (nm_e ?_))
    · rw [if_neg (by rw [e]; decide), Nat.add_zero] at hn
      exact hn
    · rw [if_pos e] at hn
      exact hn
theorem wx_wk {post : Int32 → Prop} {s : Nat} (hs : s < 4) (hw : wc s ≤ 12) (hp : ∀ p, p < wc s → wk (12 * s + p) < 64) (h : post (nI (qc_c (fun key => qw_W wk (12 * s) key (wc s)) 64))) : wpX_writtenKeys post (g, nI C, nI D, ro, dr, qn_F lw, qb_F op, qb_F se, qn_F st, sn, rx, qn_F wc, qn_F wk, wr, qn_F sc, qn_F sv, qn_F pn, pr, pw, qb_F pO, qb_F pI) (nI s) := by
  unfold wpX_writtenKeys
  exact ⟨65, wx_wk4 hs hw hp h 64 0 (by omega)⟩
theorem wx_nx20 {post : Int32 → SX → Prop} {s : Nat} {F : Nat → Int64} (hs : s < 4) (hw : wc s ≤ 12) (hp : ∀ p, p < wc s → wk (12 * s + p) < 64) (hF : ∀ key, key < 64 → ql_l wk wr (12 * s) key (sn (64 * s + key)) (wc s) = F key) : ∀ d i r, i + d = 64 → post (nI (qx_n F (qo_v wk (wc s) (12 * s)) d i r).1) (g, nI C, nI D, ro, dr, qn_F lw, qb_F op, qb_F se, qn_F st, sn, qu_p rx s (qx_n F (qo_v wk (wc s) (12 * s)) d i r).2, qn_F wc, qn_F wk, wr, qn_F sc, qn_F sv, qn_F pn, pr, pw, qb_F pO, qb_F pI) → wX_next_20 post (nI s) (d + 1) (nI i) g (nI C) (nI D) ro dr (qn_F lw) (qb_F op) (qb_F se) (qn_F st) sn (qu_p rx s r) (qn_F wc) (qn_F wk) wr (qn_F sc) (qn_F sv) (qn_F pn) pr pw (qb_F pO) (qb_F pI) := by
  intro d
  induction d with
  | zero =>
    intro i r hi h
    have hi8 : i = 64 := by omega
    subst hi8
    rw [wX_next_20]
    exact pk_le 64 64 (fun _ => h) (fun h => absurd h (by omega))
  | succ d ih =>
    intro i r hi h
    rw [wX_next_20]
    refine pk_le 64 i (fun h => absurd h (by omega)) (fun _ => ?_)
    refine wx_add hs hw hp (by omega) ?_
    simp only [nI_1, qu_s, qu_qu]
    refine wx_vis hs hw hp (by omega) ?_
    rw [hF i (by omega)]
    rw [qx_n] at h
    refine br_c (fun e => nm_e (ih (i + 1) _ (by omega) ?_)) (fun e => ?_)
    · rw [if_pos e] at h
      exact h
    · rw [if_neg e] at h
      exact h
theorem wx_sm34 {post : Int64 → SX → Prop} {s hb : Nat} {F : Nat → Int64} (hs : s < 4) (hw : wc s ≤ 12) (hp : ∀ p, p < wc s → wk (12 * s + p) < 64) (hF : ∀ key, key < 64 → ql_l wk wr (12 * s) key (sn (64 * s + key)) (wc s) = F key) (hh : hb < 64) : ∀ d i t r, i < 65 → (i + d = hb + 1 ∨ (d = 0 ∧ hb < i)) → post (qx_s F (qo_v wk (wc s) (12 * s)) d i t r).1 (g, nI C, nI D, ro, dr, qn_F lw, qb_F op, qb_F se, qn_F st, sn, qu_p rx s (qx_s F (qo_v wk (wc s) (12 * s)) d i t r).2, qn_F wc, qn_F wk, wr, qn_F sc, qn_F sv, qn_F pn, pr, pw, qb_F pO, qb_F pI) → wX_sum_34 post (nI s) (nI hb) (d + 1) t (nI i) g (nI C) (nI D) ro dr (qn_F lw) (qb_F op) (qb_F se) (qn_F st) sn (qu_p rx s r) (qn_F wc) (qn_F wk) wr (qn_F sc) (qn_F sv) (qn_F pn) pr pw (qb_F pO) (qb_F pI) := by
  intro d
  induction d with
  | zero =>
    intro i t r h65 hi h
    rw [wX_sum_34]
    exact pk_lt hb i (fun _ => h) (fun h => absurd h (by omega))
  | succ d ih =>
    intro i t r h65 hi h
    rw [wX_sum_34]
    refine pk_lt hb i (fun h => absurd h (by omega)) (fun _ => ?_)
    refine wx_add hs hw hp (by omega) ?_
    simp only [nI_1, qu_s, qu_qu]
    refine wx_vis hs hw hp (by omega) ?_
    rw [hF i (by omega)]
    rw [qx_s] at h
    refine br_c (fun e => nm_e (ih (i + 1) _ _ (by omega) (by omega) ?_)) (fun e => nm_e (nm_e (ih (i + 1) _ _ (by omega) (by omega) ?_)))
    · rw [if_pos e] at h
      exact h
    · rw [if_neg e] at h
      exact h
end
