section
variable {g : Int32} {C D H : Nat} {ro dr sn rx wr pr pw cr cw ry : Nat → Int64} {lw st wc wk sc sv pn hc hk cs yc ys : Nat → Nat} {op se pO pI ht kn yt : Nat → Bool} {hv yv : Nat → Int32}
theorem wy_af7 {post : Int64 → Prop} {m key : Nat} (hH : H ≤ 520) (hm : m < 2 ^ 31) (hh : ∀ i, i < H → hc i < 2 ^ 31 ∧ hk i < 2 ^ 31) (hy : key < 64) (h : post (qa_f hc hk (qv_v ht hv) m key H)) : ∀ d i, i + d = H → wY_after_7 post (nI m) (nI key) g (nI C) (nI D) (nI H) (qn_F hc) (qn_F hk) hv (qb_F ht) (qn_F cs) cr cw (qb_F kn) (qb_F op) (qb_F se) (qn_F st) ry (qn_F yc) (qn_F ys) (qn_F wk) yv (qb_F yt) (qn_F sv) (d + 1) (qa_f hc hk (qv_v ht hv) m key i) (nI i) := by
  intro d
  induction d with
  | zero =>
    intro i hi
    rw [wY_after_7]
    refine pk_le H i (fun _ => ?_) (fun h => absurd h (by omega))
    have : i = H := by omega
    rw [this]
    exact h
  | succ d ih =>
    intro i hi
    obtain ⟨h1, h2⟩ := hh i (by omega)
    have hn := ih (i + 1) (by omega)
    have hi5 : vp_in (nI i) 520 := vp_in_nI (by omega) (by omega)
    rw [qa_f] at hn
    rw [wY_after_7]
    simp only [nI_clamp (show i < 2 ^ 31 by omega), qn_at, qb_at, nI_1]
    refine pk_le H i (fun h => absurd h (by omega)) (fun _ => ⟨hi5, pk_lt m (hc i) (fun e => nm_e ?_) (fun e => ⟨hi5, pk_eq (hk i) key (fun e2 => ⟨hi5, qb_br (fun z => nm_e ?_) (fun z => ⟨hi5, nm_e (nm_e ?_)⟩)⟩) (fun e2 => nm_e ?_)⟩)⟩)
    · rw [if_neg (by omega)] at hn
      exact hn
    · rw [if_pos ⟨e, e2⟩, qv_v, if_neg (by rw [z]; decide)] at hn
      exact hn
    · rw [if_pos ⟨e, e2⟩, qv_v, if_pos z] at hn
      exact hn
    · rw [if_neg (by omega)] at hn
      exact hn
theorem wy_after {post : Int64 → Prop} {m key : Nat} (hH : H ≤ 520) (hm : m < 2 ^ 31) (hh : ∀ i, i < H → hc i < 2 ^ 31 ∧ hk i < 2 ^ 31) (hy : key < 64) (h : post (qa_f hc hk (qv_v ht hv) m key H)) : wpY_after post (g, nI C, nI D, nI H, qn_F hc, qn_F hk, hv, qb_F ht, qn_F cs, cr, cw, qb_F kn, qb_F op, qb_F se, qn_F st, ry, qn_F yc, qn_F ys, qn_F wk, yv, qb_F yt, qn_F sv) (nI m) (nI key) := by
  unfold wpY_after
  exact ⟨H + 1, wy_af7 hH hm hh hy h H 0 (by omega)⟩
theorem wy_wr5 {post : Int32 → Prop} {s key : Nat} (hs : s < 4) (hw : yc s ≤ 12) (hp : ∀ p, p < yc s → wk (12 * s + p) < 64) (hy : key < 64) (h : post (qb_i (qw_W wk (12 * s) key (yc s)))) : ∀ d i, i + d = yc s → (∀ p, p < i → wk (12 * s + p) ≠ key) → wY_wrote_5 post (nI s) (nI key) g (nI C) (nI D) (nI H) (qn_F hc) (qn_F hk) hv (qb_F ht) (qn_F cs) cr cw (qb_F kn) (qb_F op) (qb_F se) (qn_F st) ry (qn_F yc) (qn_F ys) (qn_F wk) yv (qb_F yt) (qn_F sv) (d + 1) (nI (12 * s + i)) := by
  intro d
  induction d with
  | zero =>
    intro i hi hn
    rw [wY_wrote_5]
    simp only [nI_clamp (show s < 2 ^ 31 by omega), qn_at, qi_12]
    refine ⟨vp_in_nI hs (by omega), pk_le (12 * s + yc s) (12 * s + i) (fun _ => ?_) (fun h => absurd h (by omega))⟩
    cases hb : qw_W wk (12 * s) key (yc s)
    · rw [hb] at h; exact h
    · obtain ⟨p, hpp, e⟩ := (qw_iff _).mp hb
      exact absurd e (hn p (by omega))
  | succ d ih =>
    intro i hi hn
    have h64 := hp i (by omega)
    rw [wY_wrote_5]
    simp only [nI_clamp (show s < 2 ^ 31 by omega), qn_at, qi_12, nI_clamp (show 12 * s + i < 2 ^ 31 by omega), nI_1]
    refine ⟨vp_in_nI hs (by omega), pk_le (12 * s + yc s) (12 * s + i) (fun h => absurd h (by omega)) (fun _ => ⟨vp_in_nI (by omega) (by omega), pk_eq (wk (12 * s + i)) key (fun e => ?_) (fun e => nm_e (ih (i + 1) (by omega) (fun p hpp => ?_)))⟩)⟩
    · have hb : qw_W wk (12 * s) key (yc s) = true := (qw_iff _).mpr ⟨i, by omega, e⟩
      rw [hb] at h
      exact h
    · by_cases c : p = i
      · subst c; exact e
      · exact hn p (by omega)
theorem wy_wrote {post : Int32 → Prop} {s key : Nat} (hs : s < 4) (hw : yc s ≤ 12) (hp : ∀ p, p < yc s → wk (12 * s + p) < 64) (hy : key < 64) (h : post (qb_i (qw_W wk (12 * s) key (yc s)))) : wpY_wrote post (g, nI C, nI D, nI H, qn_F hc, qn_F hk, hv, qb_F ht, qn_F cs, cr, cw, qb_F kn, qb_F op, qb_F se, qn_F st, ry, qn_F yc, qn_F ys, qn_F wk, yv, qb_F yt, qn_F sv) (nI s) (nI key) := by
  unfold wpY_wrote
  simp only [qi_12']
  exact nm_e ⟨yc s + 1, wy_wr5 hs hw hp hy h (yc s) 0 (by omega) (fun p hp => by omega)⟩
theorem wy_se18 {post : Int64 → Prop} {s key : Nat} {d0 : Int64} (hs : s < 4) (hw : yc s ≤ 12) (hp : ∀ p, p < yc s → wk (12 * s + p) < 64) (hy : key < 64) (h : post (ql_l wk (qv_v yt yv) (12 * s) key d0 (yc s))) : ∀ d i, i + d = yc s → wY_sees_18 post (nI s) (nI key) g (nI C) (nI D) (nI H) (qn_F hc) (qn_F hk) hv (qb_F ht) (qn_F cs) cr cw (qb_F kn) (qb_F op) (qb_F se) (qn_F st) ry (qn_F yc) (qn_F ys) (qn_F wk) yv (qb_F yt) (qn_F sv) (d + 1) (ql_l wk (qv_v yt yv) (12 * s) key d0 i) (nI (12 * s + i)) := by
  intro d
  induction d with
  | zero =>
    intro i hi
    rw [wY_sees_18]
    simp only [nI_clamp (show s < 2 ^ 31 by omega), qn_at, qi_12]
    refine ⟨vp_in_nI hs (by omega), pk_le (12 * s + yc s) (12 * s + i) (fun _ => ?_) (fun h => absurd h (by omega))⟩
    have : i = yc s := by omega
    rw [this]
    exact h
  | succ d ih =>
    intro i hi
    have h64 := hp i (by omega)
    have hn := ih (i + 1) (by omega)
    have hi5 : vp_in (nI (12 * s + i)) 48 := vp_in_nI (by omega) (by omega)
    rw [ql_l] at hn
    rw [wY_sees_18]
    simp only [nI_clamp (show s < 2 ^ 31 by omega), qn_at, qb_at, qi_12, nI_clamp (show 12 * s + i < 2 ^ 31 by omega), nI_1]
    refine ⟨vp_in_nI hs (by omega), pk_le (12 * s + yc s) (12 * s + i) (fun h => absurd h (by omega)) (fun _ => ⟨hi5, pk_eq (wk (12 * s + i)) key (fun e => ⟨hi5, qb_br (fun z => nm_e ?_) (fun z => ⟨hi5, nm_e (nm_e ?_)⟩)⟩) (fun e => nm_e ?_)⟩)⟩
    · rw [if_pos e, qv_v, if_neg (by rw [z]; decide)] at hn
      exact hn
    · rw [if_pos e, qv_v, if_pos z] at hn
      exact hn
    · rw [if_neg e] at hn
      exact hn
theorem wy_sees {post : Int64 → Prop} {s key : Nat} (hs : s < 4) (hw : yc s ≤ 12) (hp : ∀ p, p < yc s → wk (12 * s + p) < 64) (hy : key < 64) (hH : H ≤ 520) (hm : st s < 2 ^ 31) (hh : ∀ i, i < H → hc i < 2 ^ 31 ∧ hk i < 2 ^ 31) (h : post (ql_l wk (qv_v yt yv) (12 * s) key (qa_f hc hk (qv_v ht hv) (st s) key H) (yc s))) : wpY_sees post (g, nI C, nI D, nI H, qn_F hc, qn_F hk, hv, qb_F ht, qn_F cs, cr, cw, qb_F kn, qb_F op, qb_F se, qn_F st, ry, qn_F yc, qn_F ys, qn_F wk, yv, qb_F yt, qn_F sv) (nI s) (nI key) := by
  unfold wpY_sees
  simp only [nI_clamp (show s < 2 ^ 31 by omega), qn_at, qi_12']
  refine ⟨vp_in_nI hs (by omega), wy_after hH hm hh hy ?_⟩
  exact nm_e ⟨yc s + 1, wy_se18 hs hw hp hy h (yc s) 0 (by omega)⟩
theorem wy_note {post : SY → Prop} {s key : Nat} (hs : s < 4) (hw : yc s ≤ 12) (hp : ∀ p, p < yc s → wk (12 * s + p) < 64) (hy : key < 64) (h : post (g, nI C, nI D, nI H, qn_F hc, qn_F hk, hv, qb_F ht, qn_F cs, cr, cw, qb_F kn, qb_F op, qb_F se, qn_F st, qu_p ry s (qo_v wk (yc s) (12 * s) key (ry s)), qn_F yc, qn_F ys, qn_F wk, yv, qb_F yt, qn_F sv)) : wpY_note post (g, nI C, nI D, nI H, qn_F hc, qn_F hk, hv, qb_F ht, qn_F cs, cr, cw, qb_F kn, qb_F op, qb_F se, qn_F st, ry, qn_F yc, qn_F ys, qn_F wk, yv, qb_F yt, qn_F sv) (nI s) (nI key) := by
  unfold wpY_note
  dsimp only
  refine wy_wrote hs hw hp hy ?_
  simp only [qm_d, nI_clamp (show s < 2 ^ 31 by omega), qu_L]
  refine qb_br (fun e => ?_) (fun e => ?_)
  · rw [qo_v, if_neg (by rw [e]; decide)] at h
    exact ⟨vp_in_nI hs (by omega), vp_in_nI hs (by omega), nm_e h⟩
  · rw [qo_v, if_pos e, qu_id] at h
    exact h
theorem wy_ws8 {post : Int64 → Prop} {s : Nat} (hs : s < 4) (hw : yc s ≤ 12) (h : post (qm_s wk (12 * s) (yc s))) : ∀ d i, i + d = yc s → wY_writeSet_8 post (nI s) g (nI C) (nI D) (nI H) (qn_F hc) (qn_F hk) hv (qb_F ht) (qn_F cs) cr cw (qb_F kn) (qb_F op) (qb_F se) (qn_F st) ry (qn_F yc) (qn_F ys) (qn_F wk) yv (qb_F yt) (qn_F sv) (d + 1) (qm_s wk (12 * s) i) (nI (12 * s + i)) := by
  intro d
  induction d with
  | zero =>
    intro i hi
    rw [wY_writeSet_8]
    simp only [nI_clamp (show s < 2 ^ 31 by omega), qn_at, qi_12]
    refine ⟨vp_in_nI hs (by omega), pk_le (12 * s + yc s) (12 * s + i) (fun _ => ?_) (fun h => absurd h (by omega))⟩
    have : i = yc s := by omega
    rw [this]
    exact h
  | succ d ih =>
    intro i hi
    rw [wY_writeSet_8]
    simp only [nI_clamp (show s < 2 ^ 31 by omega), qn_at, qi_12, nI_clamp (show 12 * s + i < 2 ^ 31 by omega), qm_d, nI_1]
    exact ⟨vp_in_nI hs (by omega), pk_le (12 * s + yc s) (12 * s + i) (fun h => absurd h (by omega)) (fun _ => ⟨vp_in_nI (by omega) (by omega), nm_e (nm_e (ih (i + 1) (by omega)))⟩)⟩
theorem wy_writeSet {post : Int64 → Prop} {s : Nat} (hs : s < 4) (hw : yc s ≤ 12) (h : post (qm_s wk (12 * s) (yc s))) : wpY_writeSet post (g, nI C, nI D, nI H, qn_F hc, qn_F hk, hv, qb_F ht, qn_F cs, cr, cw, qb_F kn, qb_F op, qb_F se, qn_F st, ry, qn_F yc, qn_F ys, qn_F wk, yv, qb_F yt, qn_F sv) (nI s) := by
  unfold wpY_writeSet
  simp only [qi_12']
  exact nm_e ⟨yc s + 1, wy_ws8 hs hw h (yc s) 0 (by omega)⟩
theorem wy_nx20 {post : Int32 → SY → Prop} {s : Nat} {F : Nat → Int64} (hs : s < 4) (hw : yc s ≤ 12) (hp : ∀ p, p < yc s → wk (12 * s + p) < 64) (hH : H ≤ 520) (hm : st s < 2 ^ 31) (hh : ∀ i, i < H → hc i < 2 ^ 31 ∧ hk i < 2 ^ 31) (hF : ∀ key, key < 64 → ql_l wk (qv_v yt yv) (12 * s) key (qa_f hc hk (qv_v ht hv) (st s) key H) (yc s) = F key) : ∀ d i r, i + d = 64 → post (nI (qx_n F (qo_v wk (yc s) (12 * s)) d i r).1) (g, nI C, nI D, nI H, qn_F hc, qn_F hk, hv, qb_F ht, qn_F cs, cr, cw, qb_F kn, qb_F op, qb_F se, qn_F st, qu_p ry s (qx_n F (qo_v wk (yc s) (12 * s)) d i r).2, qn_F yc, qn_F ys, qn_F wk, yv, qb_F yt, qn_F sv) → wY_next_20 post (nI s) (d + 1) (nI i) g (nI C) (nI D) (nI H) (qn_F hc) (qn_F hk) hv (qb_F ht) (qn_F cs) cr cw (qb_F kn) (qb_F op) (qb_F se) (qn_F st) (qu_p ry s r) (qn_F yc) (qn_F ys) (qn_F wk) yv (qb_F yt) (qn_F sv) := by
  intro d
  induction d with
  | zero =>
    intro i r hi h
    have hi8 : i = 64 := by omega
    subst hi8
    rw [wY_next_20]
    exact pk_le 64 64 (fun _ => h) (fun h => absurd h (by omega))
  | succ d ih =>
    intro i r hi h
    rw [wY_next_20]
    refine pk_le 64 i (fun h => absurd h (by omega)) (fun _ => ?_)
    refine wy_note hs hw hp (by omega) ?_
    simp only [nI_1, qu_s, qu_qu]
    refine wy_sees hs hw hp (by omega) hH hm hh ?_
    rw [hF i (by omega)]
    rw [qx_n] at h
    refine br_c (fun e => nm_e (ih (i + 1) _ (by omega) ?_)) (fun e => ?_)
    · rw [if_pos e] at h
      exact h
    · rw [if_neg e] at h
      exact h
theorem wy_sm34 {post : Int64 → SY → Prop} {s hb : Nat} {F : Nat → Int64} (hs : s < 4) (hw : yc s ≤ 12) (hp : ∀ p, p < yc s → wk (12 * s + p) < 64) (hH : H ≤ 520) (hm : st s < 2 ^ 31) (hh : ∀ i, i < H → hc i < 2 ^ 31 ∧ hk i < 2 ^ 31) (hF : ∀ key, key < 64 → ql_l wk (qv_v yt yv) (12 * s) key (qa_f hc hk (qv_v ht hv) (st s) key H) (yc s) = F key) (h64 : hb < 64) : ∀ d i t r, i < 65 → (i + d = hb + 1 ∨ (d = 0 ∧ hb < i)) → post (qx_s F (qo_v wk (yc s) (12 * s)) d i t r).1 (g, nI C, nI D, nI H, qn_F hc, qn_F hk, hv, qb_F ht, qn_F cs, cr, cw, qb_F kn, qb_F op, qb_F se, qn_F st, qu_p ry s (qx_s F (qo_v wk (yc s) (12 * s)) d i t r).2, qn_F yc, qn_F ys, qn_F wk, yv, qb_F yt, qn_F sv) → wY_sum_34 post (nI s) (nI hb) (d + 1) t (nI i) g (nI C) (nI D) (nI H) (qn_F hc) (qn_F hk) hv (qb_F ht) (qn_F cs) cr cw (qb_F kn) (qb_F op) (qb_F se) (qn_F st) (qu_p ry s r) (qn_F yc) (qn_F ys) (qn_F wk) yv (qb_F yt) (qn_F sv) := by
  intro d
  induction d with
  | zero =>
    intro i t r h65 hi h
    rw [wY_sum_34]
    exact pk_lt hb i (fun _ => h) (fun h => absurd h (by omega))
  | succ d ih =>
    intro i t r h65 hi h
    rw [wY_sum_34]
    refine pk_lt hb i (fun h => absurd h (by omega)) (fun _ => ?_)
    refine wy_note hs hw hp (by omega) ?_
    simp only [nI_1, qu_s, qu_qu]
    refine wy_sees hs hw hp (by omega) hH hm hh ?_
    rw [hF i (by omega)]
    rw [qx_s] at h
    refine br_c (fun e => nm_e (ih (i + 1) _ _ (by omega) (by omega) ?_)) (fun e => nm_e (nm_e (ih (i + 1) _ _ (by omega) (by omega) ?_)))
    · rw [if_pos e] at h
      exact h
    · rw [if_neg e] at h
      exact h
theorem wy_wr64 {post : Int32 → SY → Prop} {s key : Nat} {x3 : Int32} {b4 : Bool} (hs : s < 4) (hw : yc s ≤ 12) (hy : key < 64) (hH : H ≤ 520) (hm : st s < 2 ^ 31) (hh : ∀ i, i < H → hc i < 2 ^ 31 ∧ hk i < 2 ^ 31) (h1 : (∃ i, i < H ∧ st s < hc i ∧ hk i = key) → post 2 (g, nI C, nI D, nI H, qn_F hc, qn_F hk, hv, qb_F ht, qn_F cs, cr, cw, qb_F kn, qb_F (qu_p op s false), qb_F se, qn_F st, ry, qn_F yc, qn_F ys, qn_F wk, yv, qb_F yt, qn_F sv)) (h0 : ¬ (∃ i, i < H ∧ st s < hc i ∧ hk i = key) → (yc s = 12 → post 4 (g, nI C, nI D, nI H, qn_F hc, qn_F hk, hv, qb_F ht, qn_F cs, cr, cw, qb_F kn, qb_F op, qb_F se, qn_F st, ry, qn_F yc, qn_F ys, qn_F wk, yv, qb_F yt, qn_F sv)) ∧ (yc s ≠ 12 → post 0 (g, nI C, nI D, nI H, qn_F hc, qn_F hk, hv, qb_F ht, qn_F cs, cr, cw, qb_F kn, qb_F op, qb_F se, qn_F st, ry, qn_F (qu_p yc s (yc s + 1)), qn_F ys, qn_F (qu_p wk (12 * s + yc s) key), qu_p yv (12 * s + yc s) x3, qb_F (qu_p yt (12 * s + yc s) b4), qn_F sv))) : ∀ d i, i + d = H → (∀ q, q < i → ¬ (st s < hc q ∧ hk q = key)) → wY_write_64 post (nI s) (nI key) x3 (qb_i b4) g (nI C) (nI D) (nI H) (qn_F hc) (qn_F hk) hv (qb_F ht) (qn_F cs) cr cw (qb_F kn) (qb_F op) (qb_F se) (qn_F st) ry (qn_F yc) (qn_F ys) (qn_F wk) yv (qb_F yt) (qn_F sv) (d + 1) (nI i) := by
  intro d
  induction d with
  | zero =>
    intro i hi hn
    obtain ⟨ha, hb⟩ := h0 (fun ⟨q, hq, e⟩ => hn q (by omega) e)
    have hs4 : vp_in (nI s) 4 := vp_in_nI hs (by omega)
    rw [wY_write_64]
    simp only [nI_clamp (show s < 2 ^ 31 by omega), qn_at, qi_12, nI_clamp (show 12 * s + yc s < 2 ^ 31 by omega), qb_nar, qb_U, qn_U, nI_1]
    refine pk_le H i (fun _ => ⟨hs4, pk_eq (yc s) 12 (fun e => ha e) (fun e => ⟨hs4, nm_e ?_⟩)⟩) (fun h => absurd h (by omega))
    have hi5 : vp_in (nI (12 * s + yc s)) 48 := vp_in_nI (by omega) (by omega)
    simp only [nI_clamp (show 12 * s + yc s < 2 ^ 31 by omega), qb_U, qn_U]
    have hq := hb e
    exact ⟨hi5, nm_e ⟨hi5, nm_e ⟨hi5, nm_e ⟨hs4, hs4, nm_e hq⟩⟩⟩⟩
  | succ d ih =>
    intro i hi hn
    obtain ⟨g1, g2⟩ := hh i (by omega)
    have hs4 : vp_in (nI s) 4 := vp_in_nI hs (by omega)
    have hi5 : vp_in (nI i) 520 := vp_in_nI (by omega) (by omega)
    rw [wY_write_64]
    simp only [nI_clamp (show s < 2 ^ 31 by omega), nI_clamp (show i < 2 ^ 31 by omega), qn_at, qb_nar0, qb_U, nI_1]
    refine pk_le H i (fun h => absurd h (by omega)) (fun _ => ⟨hi5, hs4, pk_le (hc i) (st s) (fun e => nm_e (ih (i + 1) (by omega) (fun q hq => ?_))) (fun e => ⟨hi5, pk_eq (hk i) key (fun e2 => ⟨hs4, nm_e (h1 ⟨i, by omega, e, e2⟩)⟩) (fun e2 => nm_e (ih (i + 1) (by omega) (fun q hq => ?_)))⟩)⟩)
    · by_cases c : q = i
      · subst c; intro z; omega
      · exact hn q (by omega)
    · by_cases c : q = i
      · subst c; intro z; omega
      · exact hn q (by omega)
theorem wy_wr21 {post : Int32 → SY → Prop} {s key : Nat} {x3 x4 : Int32} (hs : s < 4) (hw : ∀ o, o < 4 → op o = true → yc o ≤ 12) (hp : ∀ o, o < 4 → op o = true → ∀ p, p < yc o → wk (12 * o + p) < 64) (hy : key < 64) (h1 : (∃ o, o < 4 ∧ o ≠ s ∧ op o = true ∧ qw_W wk (12 * o) key (yc o) = true) → post 1 (g, nI C, nI D, nI H, qn_F hc, qn_F hk, hv, qb_F ht, qn_F cs, cr, cw, qb_F kn, qb_F op, qb_F se, qn_F st, ry, qn_F yc, qn_F ys, qn_F wk, yv, qb_F yt, qn_F sv)) (h0 : ¬ (∃ o, o < 4 ∧ o ≠ s ∧ op o = true ∧ qw_W wk (12 * o) key (yc o) = true) → ∃ n64, wY_write_64 post (nI s) (nI key) x3 x4 g (nI C) (nI D) (nI H) (qn_F hc) (qn_F hk) hv (qb_F ht) (qn_F cs) cr cw (qb_F kn) (qb_F op) (qb_F se) (qn_F st) ry (qn_F yc) (qn_F ys) (qn_F wk) yv (qb_F yt) (qn_F sv) n64 0) : ∀ d i, i + d = 4 → (∀ o, o < i → ¬ (o ≠ s ∧ op o = true ∧ qw_W wk (12 * o) key (yc o) = true)) → wY_write_21 post (nI s) (nI key) x3 x4 g (nI C) (nI D) (nI H) (qn_F hc) (qn_F hk) hv (qb_F ht) (qn_F cs) cr cw (qb_F kn) (qb_F op) (qb_F se) (qn_F st) ry (qn_F yc) (qn_F ys) (qn_F wk) yv (qb_F yt) (qn_F sv) (d + 1) (nI i) := by
  intro d
  induction d with
  | zero =>
    intro i hi hn
    rw [wY_write_21]
    exact pk_le 4 i (fun _ => h0 (fun ⟨q, hq, e⟩ => hn q (by omega) e)) (fun h => absurd h (by omega))
  | succ d ih =>
    intro i hi hn
    have up : ¬ (i ≠ s ∧ op i = true ∧ qw_W wk (12 * i) key (yc i) = true) → (∀ o, o < i + 1 → ¬ (o ≠ s ∧ op o = true ∧ qw_W wk (12 * o) key (yc o) = true)) := fun z o ho => by
      by_cases c : o = i
      · subst c; exact z
      · exact hn o (by omega)
    rw [wY_write_21]
    simp only [nI_clamp (show i < 2 ^ 31 by omega), qb_at, nI_1]
    refine pk_le 4 i (fun h => absurd h (by omega)) (fun _ => pk_eq i s (fun e => nm_e (ih (i + 1) (by omega) (up (fun z => z.1 e)))) (fun e => ⟨vp_in_nI (by omega) (by omega), qb_br (fun e1 => nm_e (ih (i + 1) (by omega) (up (fun z => by rw [e1] at z; exact absurd z.2.1 (by decide))))) (fun e1 => ?_)⟩))
    refine wy_wrote (by omega) (hw i (by omega) e1) (hp i (by omega) e1) hy ?_
    refine qb_br (fun e2 => nm_e (ih (i + 1) (by omega) (up (fun z => by rw [e2] at z; exact absurd z.2.2 (by decide))))) (fun e2 => h1 ⟨i, by omega, e, e1, e2⟩)
end
