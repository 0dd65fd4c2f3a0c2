section
variable {g : Int32} {C D H : Nat} {ro dr sn rx wr pr pw cr cw ry : Nat → Int64} {lw st wc wk sc sv pn hc hk cs yc ys : Nat → Nat} {op se pO pI ht kn yt : Nat → Bool} {hv yv : Nat → Int32}
theorem wx_isOpen {post : Int32 → Prop} {s : Nat} (hs : s < 4) (h : post (qb_i (op s))) : wpX_isOpen post (g, nI C, nI D, ro, dr, qn_F lw, qb_F op, qb_F se, qn_F st, sn, rx, qn_F wc, qn_F wk, wr, qn_F sc, qn_F sv, qn_F pn, pr, pw, qb_F pO, qb_F pI) (nI s) := by
  unfold wpX_isOpen
  simp only [nI_clamp (show s < 2 ^ 31 by omega), qb_at]
  refine pk_lt s 0 (fun h => absurd h (by omega)) (fun _ => pk_le 4 s (fun h => absurd h (by omega)) (fun _ => ⟨vp_in_nI hs (by omega), qb_br (fun e => ?_) (fun e => ?_)⟩))
  · rw [e] at h; exact h
  · rw [e] at h; exact h
theorem wx_open (v1 : Int32) : (∃ s, s < 4 ∧ v1 = nI s ∧ op s = true) ∨ ((∀ post : Int32 → Prop, post 0 → wpX_isOpen post (g, nI C, nI D, ro, dr, qn_F lw, qb_F op, qb_F se, qn_F st, sn, rx, qn_F wc, qn_F wk, wr, qn_F sc, qn_F sv, qn_F pn, pr, pw, qb_F pO, qb_F pI) v1) ∧ (∀ post : Int32 → Prop, post 0 → wpY_isOpen post (g, nI C, nI D, nI H, qn_F hc, qn_F hk, hv, qb_F ht, qn_F cs, cr, cw, qb_F kn, qb_F op, qb_F se, qn_F st, ry, qn_F yc, qn_F ys, qn_F wk, yv, qb_F yt, qn_F sv) v1)) := by
  rcases pk_ix v1 (n := 4) (by omega) with h | h | ⟨s, hs, rfl⟩
  · exact Or.inr ⟨fun post p => br_t h p, fun post p => br_t h p⟩
  · have h0 : ¬ v1 < 0 := fun z => absurd (Int32.lt_of_lt_of_le z (Int32.le_trans (show (0 : Int32) ≤ nI 4 by decide) h)) (Int32.lt_irrefl)
    exact Or.inr ⟨fun post p => br_f h0 (br_t h p), fun post p => br_f h0 (br_t h p)⟩
  · cases ho : op s
    · refine Or.inr ⟨fun post p => ?_, fun post p => ?_⟩
      · exact wx_isOpen hs (by rw [ho]; exact p)
      · unfold wpY_isOpen
        simp only [nI_clamp (show s < 2 ^ 31 by omega), qb_at]
        refine pk_lt s 0 (fun h => absurd h (by omega)) (fun _ => pk_le 4 s (fun h => absurd h (by omega)) (fun _ => ⟨vp_in_nI hs (by omega), qb_br (fun e => p) (fun e => ?_)⟩))
        rw [ho] at e
        exact absurd e (by decide)
    · exact Or.inl ⟨s, hs, rfl, ho⟩
theorem wx_isOpenT {post : Int32 → Prop} {s : Nat} (hs : s < 4) (ho : op s = true) (h : post 1) : wpX_isOpen post (g, nI C, nI D, ro, dr, qn_F lw, qb_F op, qb_F se, qn_F st, sn, rx, qn_F wc, qn_F wk, wr, qn_F sc, qn_F sv, qn_F pn, pr, pw, qb_F pO, qb_F pI) (nI s) := wx_isOpen hs (by rw [ho]; exact h)
theorem wy_isOpenT {post : Int32 → Prop} {s : Nat} (hs : s < 4) (ho : op s = true) (h : post 1) : wpY_isOpen post (g, nI C, nI D, nI H, qn_F hc, qn_F hk, hv, qb_F ht, qn_F cs, cr, cw, qb_F kn, qb_F op, qb_F se, qn_F st, ry, qn_F yc, qn_F ys, qn_F wk, yv, qb_F yt, qn_F sv) (nI s) := by
  unfold wpY_isOpen
  simp only [nI_clamp (show s < 2 ^ 31 by omega), qb_at]
  refine pk_lt s 0 (fun h => absurd h (by omega)) (fun _ => pk_le 4 s (fun h => absurd h (by omega)) (fun _ => ⟨vp_in_nI hs (by omega), qb_br (fun e => ?_) (fun e => h)⟩))
  rw [ho] at e
  exact absurd e (by decide)
theorem wx_key (v2 : Int32) : (∃ key, key < 64 ∧ v2 = nI key) ∨ ((∀ post : Int32 → Prop, post 0 → wpX_isKey post (g, nI C, nI D, ro, dr, qn_F lw, qb_F op, qb_F se, qn_F st, sn, rx, qn_F wc, qn_F wk, wr, qn_F sc, qn_F sv, qn_F pn, pr, pw, qb_F pO, qb_F pI) v2) ∧ (∀ post : Int32 → Prop, post 0 → wpY_isKey post (g, nI C, nI D, nI H, qn_F hc, qn_F hk, hv, qb_F ht, qn_F cs, cr, cw, qb_F kn, qb_F op, qb_F se, qn_F st, ry, qn_F yc, qn_F ys, qn_F wk, yv, qb_F yt, qn_F sv) v2)) := by
  rcases pk_ix v2 (n := 64) (by omega) with h | h | ⟨key, hy, rfl⟩
  · exact Or.inr ⟨fun post p => br_t h p, fun post p => br_t h p⟩
  · have h0 : ¬ v2 < 0 := fun z => absurd (Int32.lt_of_lt_of_le z (Int32.le_trans (show (0 : Int32) ≤ nI 64 by decide) h)) (Int32.lt_irrefl)
    exact Or.inr ⟨fun post p => br_f h0 (br_t h p), fun post p => br_f h0 (br_t h p)⟩
  · exact Or.inl ⟨key, hy, rfl⟩
theorem wx_isKeyT {post : Int32 → Prop} {key : Nat} (hy : key < 64) (h : post 1) : wpX_isKey post (g, nI C, nI D, ro, dr, qn_F lw, qb_F op, qb_F se, qn_F st, sn, rx, qn_F wc, qn_F wk, wr, qn_F sc, qn_F sv, qn_F pn, pr, pw, qb_F pO, qb_F pI) (nI key) :=
  pk_lt key 0 (fun h => absurd h (by omega)) (fun _ => pk_le 64 key (fun h => absurd h (by omega)) (fun _ => h))
theorem wy_isKeyT {post : Int32 → Prop} {key : Nat} (hy : key < 64) (h : post 1) : wpY_isKey post (g, nI C, nI D, nI H, qn_F hc, qn_F hk, hv, qb_F ht, qn_F cs, cr, cw, qb_F kn, qb_F op, qb_F se, qn_F st, ry, qn_F yc, qn_F ys, qn_F wk, yv, qb_F yt, qn_F sv) (nI key) :=
  pk_lt key 0 (fun h => absurd h (by omega)) (fun _ => pk_le 64 key (fun h => absurd h (by omega)) (fun _ => h))
theorem wx_ws5 {post : Int64 → Prop} {s : Nat} (hs : s < 4) (hw : wc s ≤ 12) (h : post (qm_s wk (12 * s) (wc s))) : ∀ d i, i + d = wc s → wX_writeSet_5 post (nI s) g (nI C) (nI D) ro dr (qn_F lw) (qb_F op) (qb_F se) (qn_F st) sn rx (qn_F wc) (qn_F wk) wr (qn_F sc) (qn_F sv) (qn_F pn) pr pw (qb_F pO) (qb_F pI) (d + 1) (qm_s wk (12 * s) i) (nI i) := by
  intro d
  induction d with
  | zero =>
    intro i hi
    rw [wX_writeSet_5]
    simp only [nI_clamp (show s < 2 ^ 31 by omega), qn_at]
    refine ⟨vp_in_nI hs (by omega), pk_le (wc s) i (fun _ => ?_) (fun h => absurd h (by omega))⟩
    have : i = wc s := by omega
    rw [this]
    exact h
  | succ d ih =>
    intro i hi
    rw [wX_writeSet_5]
    simp only [nI_clamp (show s < 2 ^ 31 by omega), qn_at, qi_12, nI_clamp (show 12 * s + i < 2 ^ 31 by omega), qm_d, nI_1]
    exact ⟨vp_in_nI hs (by omega), pk_le (wc s) i (fun h => absurd h (by omega)) (fun _ => ⟨vp_in_nI (by omega) (by omega), nm_e (nm_e (ih (i + 1) (by omega)))⟩)⟩
theorem wx_writeSet {post : Int64 → Prop} {s : Nat} (hs : s < 4) (hw : wc s ≤ 12) (h : post (qm_s wk (12 * s) (wc s))) : wpX_writeSet post (g, nI C, nI D, ro, dr, qn_F lw, qb_F op, qb_F se, qn_F st, sn, rx, qn_F wc, qn_F wk, wr, qn_F sc, qn_F sv, qn_F pn, pr, pw, qb_F pO, qb_F pI) (nI s) := by
  unfold wpX_writeSet
  exact ⟨wc s + 1, wx_ws5 hs hw h (wc s) 0 (by omega)⟩
theorem wx_hasWritten {post : Int32 → Prop} {s key : Nat} (hs : s < 4) (hw : wc s ≤ 12) (hp : ∀ p, p < wc s → wk (12 * s + p) < 64) (hy : key < 64) (h : post (qb_i (qw_W wk (12 * s) key (wc s)))) : wpX_hasWritten post (g, nI C, nI D, ro, dr, qn_F lw, qb_F op, qb_F se, qn_F st, sn, rx, qn_F wc, qn_F wk, wr, qn_F sc, qn_F sv, qn_F pn, pr, pw, qb_F pO, qb_F pI) (nI s) (nI key) := by
  unfold wpX_hasWritten
  dsimp only
  refine wx_writeSet hs hw ?_
  simp only [qm_d]
  cases hb : qw_W wk (12 * s) key (wc s)
  · rw [hb] at h
    exact br_t ((qw_and hy hp).mpr hb) h
  · rw [hb] at h
    exact br_f (fun z => by rw [(qw_and hy hp).mp z] at hb; exact absurd hb (by decide)) h
theorem wx_add {post : SX → Prop} {s key : Nat} (hs : s < 4) (hw : wc s ≤ 12) (hp : ∀ p, p < wc s → wk (12 * s + p) < 64) (hy : key < 64) (h : post (g, nI C, nI D, ro, dr, qn_F lw, qb_F op, qb_F se, qn_F st, sn, qu_p rx s (qo_v wk (wc s) (12 * s) key (rx s)), qn_F wc, qn_F wk, wr, qn_F sc, qn_F sv, qn_F pn, pr, pw, qb_F pO, qb_F pI)) : wpX_addToReadSet post (g, nI C, nI D, ro, dr, qn_F lw, qb_F op, qb_F se, qn_F st, sn, rx, qn_F wc, qn_F wk, wr, qn_F sc, qn_F sv, qn_F pn, pr, pw, qb_F pO, qb_F pI) (nI s) (nI key) := by
  unfold wpX_addToReadSet
  dsimp only
  refine wx_hasWritten hs hw hp hy ?_
  simp only [qm_d, nI_clamp (show s < 2 ^ 31 by omega), qu_L]
  refine qb_br (fun e => ?_) (fun e => ?_)
  · rw [qo_v, if_neg (by rw [e]; decide)] at h
    exact ⟨vp_in_nI hs (by omega), vp_in_nI hs (by omega), nm_e h⟩
  · rw [qo_v, if_pos e, qu_id] at h
    exact h
theorem wx_vr9 {post : Int64 → Prop} {s key : Nat} (hs : s < 4) (hw : wc s ≤ 12) (hp : ∀ p, p < wc s → wk (12 * s + p) < 64) (hy : key < 64) : ∀ p, p ≤ wc s → post (ql_l wk wr (12 * s) key (sn (64 * s + key)) p) → wX_visibleRow_9 post (nI s) (nI key) g (nI C) (nI D) ro dr (qn_F lw) (qb_F op) (qb_F se) (qn_F st) sn rx (qn_F wc) (qn_F wk) wr (qn_F sc) (qn_F sv) (qn_F pn) pr pw (qb_F pO) (qb_F pI) (p + 1) (nI p - 1) := by
  intro p
  induction p with
  | zero =>
    intro _ h
    rw [wX_visibleRow_9]
    simp only [qi_64, nI_clamp (show 64 * s + key < 2 ^ 31 by omega)]
    exact br_t (by decide) ⟨vp_in_nI (by omega) (by omega), h⟩
  | succ p ih =>
    intro hq h
    have h64 := hp p (by omega)
    rw [wX_visibleRow_9, nI_pred]
    simp only [qi_12, nI_clamp (show 12 * s + p < 2 ^ 31 by omega), qn_at]
    refine pk_lt p 0 (fun h => absurd h (by omega)) (fun _ => ⟨vp_in_nI (by omega) (by omega), pk_eq (wk (12 * s + p)) key (fun e => ⟨vp_in_nI (by omega) (by omega), ?_⟩) (fun e => nm_r (e' := nI p - 1) ?_ (ih (by omega) ?_))⟩)
    · rw [ql_l, if_pos e] at h
      exact h
    · rw [Int32.sub_eq_add_neg]
    · rw [ql_l, if_neg e] at h
      exact h
theorem wx_vis {post : Int64 → Prop} {s key : Nat} (hs : s < 4) (hw : wc s ≤ 12) (hp : ∀ p, p < wc s → wk (12 * s + p) < 64) (hy : key < 64) (h : post (ql_l wk wr (12 * s) key (sn (64 * s + key)) (wc s))) : wpX_visibleRow post (g, nI C, nI D, ro, dr, qn_F lw, qb_F op, qb_F se, qn_F st, sn, rx, qn_F wc, qn_F wk, wr, qn_F sc, qn_F sv, qn_F pn, pr, pw, qb_F pO, qb_F pI) (nI s) (nI key) := by
  unfold wpX_visibleRow
  simp only [nI_clamp (show s < 2 ^ 31 by omega), qn_at]
  exact ⟨vp_in_nI hs (by omega), nm_e ⟨wc s + 1, wx_vr9 hs hw hp hy (wc s) (by omega) h⟩⟩
theorem wx_lk2 {post : Int32 → Prop} {s key : Nat} (hs : s < 4) (hw : ∀ o, o < 4 → wc o ≤ 12) (hp : ∀ o, o < 4 → ∀ p, p < wc o → wk (12 * o + p) < 64) (hy : key < 64) (r : Bool) (hr : r = true ↔ ∃ o, o < 4 ∧ o ≠ s ∧ qw_W wk (12 * o) key (wc o) = true) (h : post (qb_i r)) : ∀ d i, i + d = 4 → (∀ o, o < i → o ≠ s → qw_W wk (12 * o) key (wc o) = false) → wX_isLockedByOther_2 post (nI s) (nI key) g (nI C) (nI D) ro dr (qn_F lw) (qb_F op) (qb_F se) (qn_F st) sn rx (qn_F wc) (qn_F wk) wr (qn_F sc) (qn_F sv) (qn_F pn) pr pw (qb_F pO) (qb_F pI) (d + 1) (nI i) := by
  intro d
  induction d with
  | zero =>
    intro i hi hn
    rw [wX_isLockedByOther_2]
    refine pk_le 4 i (fun _ => ?_) (fun h => absurd h (by omega))
    cases hb : r
    · rw [hb] at h; exact h
    · obtain ⟨o, ho, hos, hq⟩ := hr.mp hb
      rw [hn o (by omega) hos] at hq
      exact absurd hq (by decide)
  | succ d ih =>
    intro i hi hn
    rw [wX_isLockedByOther_2]
    simp only [nI_1]
    refine pk_le 4 i (fun h => absurd h (by omega)) (fun _ => pk_eq i s (fun e => nm_e (ih (i + 1) (by omega) (fun o ho hos => hn o (by omega) hos))) (fun e => ?_))
    refine wx_hasWritten (by omega) (hw i (by omega)) (hp i (by omega)) hy ?_
    refine qb_br (fun e0 => nm_e (ih (i + 1) (by omega) (fun o ho hos => ?_))) (fun e1 => ?_)
    · by_cases c : o = i
      · subst c; exact e0
      · exact hn o (by omega) hos
    · have hb : r = true := hr.mpr ⟨i, by omega, e, e1⟩
      rw [hb] at h
      exact h
theorem wx_lk {post : Int32 → Prop} {s key : Nat} (hs : s < 4) (hw : ∀ o, o < 4 → wc o ≤ 12) (hp : ∀ o, o < 4 → ∀ p, p < wc o → wk (12 * o + p) < 64) (hy : key < 64) (r : Bool) (hr : r = true ↔ ∃ o, o < 4 ∧ o ≠ s ∧ qw_W wk (12 * o) key (wc o) = true) (h : post (qb_i r)) : wpX_isLockedByOther post (g, nI C, nI D, ro, dr, qn_F lw, qb_F op, qb_F se, qn_F st, sn, rx, qn_F wc, qn_F wk, wr, qn_F sc, qn_F sv, qn_F pn, pr, pw, qb_F pO, qb_F pI) (nI s) (nI key) := by
  unfold wpX_isLockedByOther
  exact ⟨5, wx_lk2 hs hw hp hy r hr h 4 0 (by omega) (fun o ho => by omega)⟩
theorem wx_end {post : SX → Prop} {s : Nat} (hs : s < 4) (h : post (g, nI C, nI D, ro, dr, qn_F lw, qb_F (qu_p op s false), qb_F se, qn_F st, sn, qu_p rx s 0, qn_F (qu_p wc s 0), qn_F wk, wr, qn_F (qu_p sc s 0), qn_F sv, qn_F pn, pr, pw, qb_F pO, qb_F pI)) : wpX_endTransaction post (g, nI C, nI D, ro, dr, qn_F lw, qb_F op, qb_F se, qn_F st, sn, rx, qn_F wc, qn_F wk, wr, qn_F sc, qn_F sv, qn_F pn, pr, pw, qb_F pO, qb_F pI) (nI s) := by
  unfold wpX_endTransaction
  simp only [nI_clamp (show s < 2 ^ 31 by omega), qb_nar0, qb_U, qu_L, qn_U0]
  exact ⟨vp_in_nI hs (by omega), nm_e ⟨vp_in_nI hs (by omega), nm_e ⟨vp_in_nI hs (by omega), nm_e ⟨vp_in_nI hs (by omega), nm_e h⟩⟩⟩⟩
end
