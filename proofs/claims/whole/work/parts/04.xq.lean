section
variable {g : Int32} {C D H : Nat} {ro dr sn rx wr pr pw cr cw ry : Nat → Int64} {lw st wc wk sc sv pn hc hk cs yc ys : Nat → Nat} {op se pO pI ht kn yt : Nat → Bool} {hv yv : Nat → Int32}
theorem wx_conc {post : Int32 → Prop} {s i : Nat} (hs : s < 4) (hi : i < 8) (h1 : st s < 2 ^ 31) (h2 : pn i < 2 ^ 31) (h : post (qb_i (decide (st s < pn i)))) : wpX_isConcurrent post (g, nI C, nI D, ro, dr, qn_F lw, qb_F op, qb_F se, qn_F st, sn, rx, qn_F wc, qn_F wk, wr, qn_F sc, qn_F sv, qn_F pn, pr, pw, qb_F pO, qb_F pI) (nI s) (nI i) := by
  unfold wpX_isConcurrent
  simp only [nI_clamp (show s < 2 ^ 31 by omega), nI_clamp (show i < 2 ^ 31 by omega), qn_at]
  refine ⟨vp_in_nI hs (by omega), vp_in_nI hi (by omega), pk_le (pn i) (st s) (fun e => ?_) (fun e => ?_)⟩
  · rw [decide_eq_false (by omega)] at h; exact h
  · rw [decide_eq_true e] at h; exact h
theorem wx_to {post : Int32 → Prop} {s i : Nat} (hs : s < 4) (hi : i < 8) (h1 : st s < 2 ^ 31) (h2 : pn i < 2 ^ 31) (h : post (qb_i (qt_T st pn rx pw s i))) : wpX_hasArrowTo post (g, nI C, nI D, ro, dr, qn_F lw, qb_F op, qb_F se, qn_F st, sn, rx, qn_F wc, qn_F wk, wr, qn_F sc, qn_F sv, qn_F pn, pr, pw, qb_F pO, qb_F pI) (nI s) (nI i) := by
  unfold wpX_hasArrowTo
  dsimp only
  refine wx_conc hs hi h1 h2 ?_
  simp only [nI_clamp (show s < 2 ^ 31 by omega), nI_clamp (show i < 2 ^ 31 by omega)]
  rw [qt_T] at h
  refine qb_br (fun e => ?_) (fun e => ⟨vp_in_nI hs (by omega), vp_in_nI hi (by omega), br_c (fun z => ?_) (fun z => ?_)⟩)
  · rw [e, Bool.false_and] at h; exact h
  · rw [e, decide_eq_false (fun c => c z)] at h; exact h
  · rw [e, decide_eq_true z] at h; exact h
theorem wx_fr {post : Int32 → Prop} {w : Int64} {s i : Nat} (hs : s < 4) (hi : i < 8) (h1 : st s < 2 ^ 31) (h2 : pn i < 2 ^ 31) (h : post (qb_i (qt_R st pn pr w s i))) : wpX_hasArrowFrom post (g, nI C, nI D, ro, dr, qn_F lw, qb_F op, qb_F se, qn_F st, sn, rx, qn_F wc, qn_F wk, wr, qn_F sc, qn_F sv, qn_F pn, pr, pw, qb_F pO, qb_F pI) (nI s) (nI i) w := by
  unfold wpX_hasArrowFrom
  dsimp only
  refine wx_conc hs hi h1 h2 ?_
  simp only [nI_clamp (show i < 2 ^ 31 by omega)]
  rw [qt_R] at h
  refine qb_br (fun e => ?_) (fun e => ⟨vp_in_nI hi (by omega), br_c (fun z => ?_) (fun z => ?_)⟩)
  · rw [e, Bool.false_and] at h; exact h
  · rw [e, decide_eq_false (fun c => c z)] at h; exact h
  · rw [e, decide_eq_true z] at h; exact h
theorem wx_jo47 {post : Int32 → Prop} {J : Int32 → Int32 → Int32 → Prop} {w : Int64} {x4 : Int32} {b5 : Bool} {s i : Nat} (hs : s < 4) (hi : i < 8) (h1 : st s < 2 ^ 31) (h2 : pn i < 2 ^ 31) (hf : qt_R st pn pr w s i = true → pI i = true → post 1) (hj : (qt_R st pn pr w s i = true → pI i = false) → J x4 (qb_i (b5 || qt_R st pn pr w s i)) (nI (i + 1))) : wX_wouldJoinTwoArrows_47 post J (nI s) w x4 (qb_i b5) (nI i) g (nI C) (nI D) ro dr (qn_F lw) (qb_F op) (qb_F se) (qn_F st) sn rx (qn_F wc) (qn_F wk) wr (qn_F sc) (qn_F sv) (qn_F pn) pr pw (qb_F pO) (qb_F pI) := by
  unfold wX_wouldJoinTwoArrows_47
  refine wx_fr hs hi h1 h2 ?_
  simp only [nI_clamp (show i < 2 ^ 31 by omega), qb_at, nI_1]
  refine qb_br (fun e => nm_e ?_) (fun e => ⟨vp_in_nI hi (by omega), qb_br (fun z => nm_e ?_) (fun z => hf e z)⟩)
  · have := hj (fun c => by rw [e] at c; exact absurd c (by decide))
    rw [e, Bool.or_false] at this
    exact this
  · have := hj (fun c => z)
    rw [e, Bool.or_true] at this
    exact this
theorem wx_jo15 {post : Int32 → Prop} {w : Int64} {s : Nat} (hs : s < 4) (h1 : st s < 2 ^ 31) (h2 : ∀ i, i < 8 → pn i < 2 ^ 31) (r : Bool) (hr : r = true ↔ (∃ i, i < 8 ∧ qt_T st pn rx pw s i = true ∧ pO i = true) ∨ (∃ i, i < 8 ∧ qt_R st pn pr w s i = true ∧ pI i = true) ∨ ((∃ i, i < 8 ∧ qt_T st pn rx pw s i = true) ∧ (∃ i, i < 8 ∧ qt_R st pn pr w s i = true))) (h : post (qb_i r)) : ∀ d i, i + d = 8 → (∀ o, o < i → (qt_T st pn rx pw s o = true → pO o = false) ∧ (qt_R st pn pr w s o = true → pI o = false)) → wX_wouldJoinTwoArrows_15 post (nI s) w g (nI C) (nI D) ro dr (qn_F lw) (qb_F op) (qb_F se) (qn_F st) sn rx (qn_F wc) (qn_F wk) wr (qn_F sc) (qn_F sv) (qn_F pn) pr pw (qb_F pO) (qb_F pI) (d + 1) (qb_i (qe_x (qt_T st pn rx pw s) i)) (qb_i (qe_x (qt_R st pn pr w s) i)) (nI i) := by
  intro d
  induction d with
  | zero =>
    intro i hi hn
    have hi8 : i = 8 := by omega
    subst hi8
    rw [wX_wouldJoinTwoArrows_15]
    have key : r = (qe_x (qt_T st pn rx pw s) 8 && qe_x (qt_R st pn pr w s) 8) := by
      rw [Bool.eq_iff_iff, hr, Bool.and_eq_true, qe_iff, qe_iff]
      constructor
      · rintro (⟨o, ho, a, b⟩ | ⟨o, ho, a, b⟩ | c)
        · rw [(hn o ho).1 a] at b; exact absurd b (by decide)
        · rw [(hn o ho).2 a] at b; exact absurd b (by decide)
        · exact c
      · intro c
        exact Or.inr (Or.inr c)
    rw [key] at h
    refine pk_le 8 8 (fun _ => qb_br (fun e => ?_) (fun e => qb_br (fun z => ?_) (fun z => ?_))) (fun h => absurd h (by omega))
    · rw [e] at h; exact h
    · rw [e, z] at h; exact h
    · rw [e, z] at h; exact h
  | succ d ih =>
    intro i hi hn
    rw [wX_wouldJoinTwoArrows_15]
    refine pk_le 8 i (fun h => absurd h (by omega)) (fun _ => ?_)
    refine wx_to hs (by omega) h1 (h2 i (by omega)) ?_
    simp only [nI_clamp (show i < 2 ^ 31 by omega), qb_at]
    have hfound : qt_R st pn pr w s i = true → pI i = true → post 1 := fun a b => by
      have hb : r = true := hr.mpr (Or.inr (Or.inl ⟨i, by omega, a, b⟩))
      rw [hb] at h
      exact h
    refine qb_br (fun e => ?_) (fun e => ⟨vp_in_nI (by omega) (by omega), qb_br (fun z => ?_) (fun z => ?_)⟩)
    · refine wx_jo47 hs (by omega) h1 (h2 i (by omega)) hfound (fun a => ?_)
      have := ih (i + 1) (by omega) (fun o ho => by
        by_cases c : o = i
        · subst c; exact ⟨fun z => by rw [e] at z; exact absurd z (by decide), a⟩
        · exact hn o (by omega))
      rw [qe_x, qe_x, e, Bool.or_false] at this
      exact this
    · have h9 := fun (a : qt_R st pn pr w s i = true → pI i = false) => ih (i + 1) (by omega) (fun o ho => by
        by_cases c : o = i
        · subst c; exact ⟨fun _ => z, a⟩
        · exact hn o (by omega))
      rw [qe_x, qe_x, e, Bool.or_true] at h9
      exact wx_jo47 hs (by omega) h1 (h2 i (by omega)) hfound h9
    · have hb : r = true := hr.mpr (Or.inl ⟨i, by omega, e, z⟩)
      rw [hb] at h
      exact h
theorem wx_join {post : Int32 → Prop} {s : Nat} (hs : s < 4) (hw : wc s ≤ 12) (h1 : st s < 2 ^ 31) (h2 : ∀ i, i < 8 → pn i < 2 ^ 31) (r : Bool) (hr : r = true ↔ (∃ i, i < 8 ∧ qt_T st pn rx pw s i = true ∧ pO i = true) ∨ (∃ i, i < 8 ∧ qt_R st pn pr (qm_s wk (12 * s) (wc s)) s i = true ∧ pI i = true) ∨ ((∃ i, i < 8 ∧ qt_T st pn rx pw s i = true) ∧ (∃ i, i < 8 ∧ qt_R st pn pr (qm_s wk (12 * s) (wc s)) s i = true))) (h : post (qb_i r)) : wpX_wouldJoinTwoArrows post (g, nI C, nI D, ro, dr, qn_F lw, qb_F op, qb_F se, qn_F st, sn, rx, qn_F wc, qn_F wk, wr, qn_F sc, qn_F sv, qn_F pn, pr, pw, qb_F pO, qb_F pI) (nI s) := by
  unfold wpX_wouldJoinTwoArrows
  dsimp only
  refine wx_writeSet hs hw ?_
  exact ⟨9, wx_jo15 hs h1 h2 r hr h 8 0 (by omega) (fun o ho => by omega)⟩
theorem wx_tr2 {post : Int32 → Prop} {b : Int32} {i : Nat} (hi : i < 8) (h1 : ∀ s, s < 4 → op s = true → st s < 2 ^ 31) (h2 : pn i < 2 ^ 31) (h : post (qb_i (qt_K op se st b (pn i)))) : ∀ d o, o + d = 4 → (∀ q, q < o → ¬ nI q = b → op q = true → se q = true → st q < pn i → False) → wX_isTrackedBesides_2 post (nI i) b g (nI C) (nI D) ro dr (qn_F lw) (qb_F op) (qb_F se) (qn_F st) sn rx (qn_F wc) (qn_F wk) wr (qn_F sc) (qn_F sv) (qn_F pn) pr pw (qb_F pO) (qb_F pI) (d + 1) (nI o) := by
  intro d
  induction d with
  | zero =>
    intro o ho hn
    rw [wX_isTrackedBesides_2]
    refine pk_le 4 o (fun _ => ?_) (fun h => absurd h (by omega))
    cases hb : qt_K op se st b (pn i)
    · rw [hb] at h; exact h
    · obtain ⟨q, hq, a1, a2, a3, a4⟩ := qt_iff.mp hb
      exact absurd (hn q (by omega) a1 a2 a3 a4) id
  | succ d ih =>
    intro o ho hn
    have up : ¬ (¬ nI o = b ∧ op o = true ∧ se o = true ∧ st o < pn i) → (∀ q, q < o + 1 → ¬ nI q = b → op q = true → se q = true → st q < pn i → False) := fun hno q hq a1 a2 a3 a4 => by
      by_cases c : q = o
      · subst c; exact hno ⟨a1, a2, a3, a4⟩
      · exact hn q (by omega) a1 a2 a3 a4
    rw [wX_isTrackedBesides_2]
    simp only [nI_1, nI_clamp (show o < 2 ^ 31 by omega), qb_at]
    refine pk_le 4 o (fun h => absurd h (by omega)) (fun _ => br_c (fun e => nm_e (ih (o + 1) (by omega) (up (fun z => z.1 e)))) (fun e => ⟨vp_in_nI (by omega) (by omega), qb_br (fun e1 => nm_e (ih (o + 1) (by omega) (up (fun z => by rw [e1] at z; exact absurd z.2.1 (by decide))))) (fun e1 => ⟨vp_in_nI (by omega) (by omega), qb_br (fun e2 => nm_e (ih (o + 1) (by omega) (up (fun z => by rw [e2] at z; exact absurd z.2.2.1 (by decide))))) (fun e2 => ?_)⟩)⟩))
    refine wx_conc (by omega) hi (h1 o (by omega) e1) h2 ?_
    refine qb_br (fun e3 => nm_e (ih (o + 1) (by omega) (up (fun z => ?_)))) (fun e3 => ?_)
    · exact of_decide_eq_false e3 z.2.2.2
    · have hb : qt_K op se st b (pn i) = true := qt_iff.mpr ⟨o, by omega, e, e1, e2, of_decide_eq_true e3⟩
      rw [hb] at h
      exact h
theorem wx_tr {post : Int32 → Prop} {b : Int32} {i : Nat} (hi : i < 8) (h1 : ∀ s, s < 4 → op s = true → st s < 2 ^ 31) (h2 : pn i < 2 ^ 31) (h : post (qb_i (qt_K op se st b (pn i)))) : wpX_isTrackedBesides post (g, nI C, nI D, ro, dr, qn_F lw, qb_F op, qb_F se, qn_F st, sn, rx, qn_F wc, qn_F wk, wr, qn_F sc, qn_F sv, qn_F pn, pr, pw, qb_F pO, qb_F pI) (nI i) b := by
  unfold wpX_isTrackedBesides
  exact ⟨5, wx_tr2 hi h1 h2 h 4 0 (by omega) (fun q hq => by omega)⟩
theorem wx_tb4 {post : Int32 → Prop} {b : Int32} (h1 : ∀ s, s < 4 → op s = true → st s < 2 ^ 31) (h2 : ∀ i, i < 8 → pn i < 2 ^ 31) (h : post (nI (qc_c (fun i => qt_K op se st b (pn i)) 8))) : ∀ d i, i + d = 8 → wX_trackedBesides_4 post b g (nI C) (nI D) ro dr (qn_F lw) (qb_F op) (qb_F se) (qn_F st) sn rx (qn_F wc) (qn_F wk) wr (qn_F sc) (qn_F sv) (qn_F pn) pr pw (qb_F pO) (qb_F pI) (d + 1) (nI (qc_c (fun i => qt_K op se st b (pn i)) i)) (nI i) := by
  intro d
  induction d with
  | zero =>
    intro i hi
    have hi8 : i = 8 := by omega
    subst hi8
    rw [wX_trackedBesides_4]
    exact pk_le 8 8 (fun _ => h) (fun h => absurd h (by omega))
  | succ d ih =>
    intro i hi
    rw [wX_trackedBesides_4]
    simp only [nI_1]
    refine pk_le 8 i (fun h => absurd h (by omega)) (fun _ => ?_)
    refine wx_tr (by omega) h1 (h2 i (by omega)) ?_
    have hn := ih (i + 1) (by omega)
    rw [qc_c] at hn
    refine qb_br (fun e => nm_e ?_) (fun e => nm_e (nm_e ?_))
    · rw [if_neg (by rw [e]; decide), Nat.add_zero] at hn
      exact hn
    · rw [if_pos e] at hn
      exact hn
theorem wx_tb {post : Int32 → Prop} {b : Int32} (h1 : ∀ s, s < 4 → op s = true → st s < 2 ^ 31) (h2 : ∀ i, i < 8 → pn i < 2 ^ 31) (h : post (nI (qc_c (fun i => qt_K op se st b (pn i)) 8))) : wpX_trackedBesides post (g, nI C, nI D, ro, dr, qn_F lw, qb_F op, qb_F se, qn_F st, sn, rx, qn_F wc, qn_F wk, wr, qn_F sc, qn_F sv, qn_F pn, pr, pw, qb_F pO, qb_F pI) b := by
  unfold wpX_trackedBesides
  exact ⟨9, wx_tb4 h1 h2 h 8 0 (by omega)⟩
theorem wx_us2 {post : Int32 → Prop} {b : Int32} (h1 : ∀ s, s < 4 → op s = true → st s < 2 ^ 31) (h2 : ∀ i, i < 8 → pn i < 2 ^ 31) (hx : ∃ f, f < 8 ∧ qt_K op se st b (pn f) = false) (h : ∀ f, f < 8 → qt_K op se st b (pn f) = false → post (nI f)) : ∀ d i, i + d = 8 → (∀ q, q < i → qt_K op se st b (pn q) = true) → wX_untrackedSlot_2 post b g (nI C) (nI D) ro dr (qn_F lw) (qb_F op) (qb_F se) (qn_F st) sn rx (qn_F wc) (qn_F wk) wr (qn_F sc) (qn_F sv) (qn_F pn) pr pw (qb_F pO) (qb_F pI) (d + 1) (nI i) := by
  intro d
  induction d with
  | zero =>
    intro i hi hn
    obtain ⟨f, hf, e⟩ := hx
    rw [hn f (by omega)] at e
    exact absurd e (by decide)
  | succ d ih =>
    intro i hi hn
    rw [wX_untrackedSlot_2]
    simp only [nI_1]
    refine pk_le 8 i (fun h => absurd h (by omega)) (fun _ => ?_)
    refine wx_tr (by omega) h1 (h2 i (by omega)) ?_
    refine qb_br (fun e => h i (by omega) e) (fun e => nm_e (ih (i + 1) (by omega) (fun q hq => ?_)))
    by_cases c : q = i
    · subst c; exact e
    · exact hn q (by omega)
theorem wx_us {post : Int32 → Prop} {b : Int32} (h1 : ∀ s, s < 4 → op s = true → st s < 2 ^ 31) (h2 : ∀ i, i < 8 → pn i < 2 ^ 31) (hx : ∃ f, f < 8 ∧ qt_K op se st b (pn f) = false) (h : ∀ f, f < 8 → qt_K op se st b (pn f) = false → post (nI f)) : wpX_untrackedSlot post (g, nI C, nI D, ro, dr, qn_F lw, qb_F op, qb_F se, qn_F st, sn, rx, qn_F wc, qn_F wk, wr, qn_F sc, qn_F sv, qn_F pn, pr, pw, qb_F pO, qb_F pI) b := by
  unfold wpX_untrackedSlot
  exact ⟨9, wx_us2 h1 h2 hx h 8 0 (by omega) (fun q hq => by omega)⟩
end
