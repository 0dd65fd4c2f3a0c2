section
variable {g : Int32} {k C D H : Nat} {ro dr sn rx wr pr pw cr cw ry : Nat → Int64} {lw st wc wk sc sv pn hc hk cs yc ys : Nat → Nat} {op se pO pI ht kn yt : Nat → Bool} {hv yv : Nat → Int32}
theorem mx_begin {post : Int32 → SX → Prop} {s : Nat} {b : Bool} (hs : s < 4) (ho : op s = false) (h : post 0 (g, nI C, nI D, ro, dr, qn_F lw, qb_F (qu_p op s true), qb_F (qu_p se s b), qn_F (qu_p st s C), qk_c sn ro (64 * s) 64, rx, qn_F wc, qn_F wk, wr, qn_F sc, qn_F sv, qn_F pn, pr, pw, qb_F pO, qb_F pI)) : wpX_begin post (g, nI C, nI D, ro, dr, qn_F lw, qb_F op, qb_F se, qn_F st, sn, rx, qn_F wc, qn_F wk, wr, qn_F sc, qn_F sv, qn_F pn, pr, pw, qb_F pO, qb_F pI) (nI s) (qb_i b) := by
  unfold wpX_begin
  have h4 : vp_in (nI s) 4 := vp_in_nI hs (by omega)
  simp only [nI_clamp (show s < 2 ^ 31 by omega), qb_at, qb_nar, qb_nar1, qb_U, qn_U]
  refine pk_lt s 0 (fun h => absurd h (by omega)) (fun _ => pk_le 4 s (fun h => absurd h (by omega)) (fun _ => ⟨h4, br_t (by rw [ho]; rfl) ⟨h4, nm_e ⟨h4, nm_e ⟨h4, nm_e ?_⟩⟩⟩⟩))
  have hl := wx_be46 hs h 64 0 (by omega)
  rw [qk_0] at hl
  exact ⟨65, hl⟩
theorem my_begin {post : Int32 → SY → Prop} {s : Nat} {b : Bool} (hs : s < 4) (ho : op s = false) (h : post 0 (g, nI C, nI D, nI H, qn_F hc, qn_F hk, hv, qb_F ht, qn_F cs, cr, cw, qb_F kn, qb_F (qu_p op s true), qb_F (qu_p se s b), qn_F (qu_p st s C), qu_p ry s 0, qn_F (qu_p yc s 0), qn_F (qu_p ys s 0), qn_F wk, yv, qb_F yt, qn_F sv)) : wpY_begin post (g, nI C, nI D, nI H, qn_F hc, qn_F hk, hv, qb_F ht, qn_F cs, cr, cw, qb_F kn, qb_F op, qb_F se, qn_F st, ry, qn_F yc, qn_F ys, qn_F wk, yv, qb_F yt, qn_F sv) (nI s) (qb_i b) := by
  unfold wpY_begin
  have h4 : vp_in (nI s) 4 := vp_in_nI hs (by omega)
  simp only [nI_clamp (show s < 2 ^ 31 by omega), qb_at, qb_nar, qb_nar1, qb_U, qn_U, qn_U0, qu_L]
  exact pk_lt s 0 (fun h => absurd h (by omega)) (fun _ => pk_lt 3 s (fun h => absurd h (by omega)) (fun _ => ⟨h4, br_t (by rw [ho]; rfl) ⟨h4, nm_e ⟨h4, nm_e ⟨h4, nm_e ⟨h4, nm_e ⟨h4, nm_e ⟨h4, nm_e h⟩⟩⟩⟩⟩⟩⟩))
theorem mx_beginR {post : Int32 → SX → Prop} {s : Nat} {b : Int32} (hs : s < 4) (ho : op s = true) (h : post (-1) (g, nI C, nI D, ro, dr, qn_F lw, qb_F op, qb_F se, qn_F st, sn, rx, qn_F wc, qn_F wk, wr, qn_F sc, qn_F sv, qn_F pn, pr, pw, qb_F pO, qb_F pI)) : wpX_begin post (g, nI C, nI D, ro, dr, qn_F lw, qb_F op, qb_F se, qn_F st, sn, rx, qn_F wc, qn_F wk, wr, qn_F sc, qn_F sv, qn_F pn, pr, pw, qb_F pO, qb_F pI) (nI s) b := by
  unfold wpX_begin
  simp only [nI_clamp (show s < 2 ^ 31 by omega), qb_at]
  exact pk_lt s 0 (fun h => absurd h (by omega)) (fun _ => pk_le 4 s (fun h => absurd h (by omega)) (fun _ => ⟨vp_in_nI hs (by omega), br_f (by rw [ho]; decide) h⟩))
theorem my_beginR {post : Int32 → SY → Prop} {s : Nat} {b : Int32} (hs : s < 4) (ho : op s = true) (h : post (-1) (g, nI C, nI D, nI H, qn_F hc, qn_F hk, hv, qb_F ht, qn_F cs, cr, cw, qb_F kn, qb_F op, qb_F se, qn_F st, ry, qn_F yc, qn_F ys, qn_F wk, yv, qb_F yt, qn_F sv)) : wpY_begin post (g, nI C, nI D, nI H, qn_F hc, qn_F hk, hv, qb_F ht, qn_F cs, cr, cw, qb_F kn, qb_F op, qb_F se, qn_F st, ry, qn_F yc, qn_F ys, qn_F wk, yv, qb_F yt, qn_F sv) (nI s) b := by
  unfold wpY_begin
  simp only [nI_clamp (show s < 2 ^ 31 by omega), qb_at]
  exact pk_lt s 0 (fun h => absurd h (by omega)) (fun _ => pk_lt 3 s (fun h => absurd h (by omega)) (fun _ => ⟨vp_in_nI hs (by omega), br_f (by rw [ho]; decide) h⟩))
theorem mx_read {post : Int64 → SX → Prop} {s key : Nat} (hs : s < 4) (ho : op s = true) (hw : wc s ≤ 12) (hp : ∀ p, p < wc s → wk (12 * s + p) < 64) (hy : key < 64) (h : post (ql_l wk wr (12 * s) key (sn (64 * s + key)) (wc s)) (g, nI C, nI D, ro, dr, qn_F lw, qb_F op, qb_F se, qn_F st, sn, qu_p rx s (qo_v wk (wc s) (12 * s) key (rx s)), qn_F wc, qn_F wk, wr, qn_F sc, qn_F sv, qn_F pn, pr, pw, qb_F pO, qb_F pI)) : wpX_read post (g, nI C, nI D, ro, dr, qn_F lw, qb_F op, qb_F se, qn_F st, sn, rx, qn_F wc, qn_F wk, wr, qn_F sc, qn_F sv, qn_F pn, pr, pw, qb_F pO, qb_F pI) (nI s) (nI key) := by
  unfold wpX_read
  dsimp only
  refine wx_isOpenT hs ho (br_f (by decide) ?_)
  refine wx_isKeyT hy (br_f (by decide) ?_)
  refine wx_add hs hw hp hy ?_
  dsimp only
  exact wx_vis hs hw hp hy h
theorem my_read {post : Int64 → SY → Prop} {s key : Nat} (hs : s < 4) (ho : op s = true) (hw : yc s ≤ 12) (hp : ∀ p, p < yc s → wk (12 * s + p) < 64) (hy : key < 64) (hH : H ≤ 520) (hm : st s < 2 ^ 31) (hh : ∀ i, i < H → hc i < 2 ^ 31 ∧ hk i < 2 ^ 31) (h : post (ql_l wk (qv_v yt yv) (12 * s) key (qa_f hc hk (qv_v ht hv) (st s) key H) (yc s)) (g, nI C, nI D, nI H, qn_F hc, qn_F hk, hv, qb_F ht, qn_F cs, cr, cw, qb_F kn, qb_F op, qb_F se, qn_F st, qu_p ry s (qo_v wk (yc s) (12 * s) key (ry s)), qn_F yc, qn_F ys, qn_F wk, yv, qb_F yt, qn_F sv)) : wpY_read post (g, nI C, nI D, nI H, qn_F hc, qn_F hk, hv, qb_F ht, qn_F cs, cr, cw, qb_F kn, qb_F op, qb_F se, qn_F st, ry, qn_F yc, qn_F ys, qn_F wk, yv, qb_F yt, qn_F sv) (nI s) (nI key) := by
  unfold wpY_read
  dsimp only
  refine wy_isOpenT hs ho (br_f (by decide) ?_)
  refine wy_isKeyT hy (br_f (by decide) ?_)
  refine wy_note hs hw hp hy ?_
  dsimp only
  exact wy_sees hs hw hp hy hH hm hh h
theorem mx_seen {post : Int32 → Prop} {s key : Nat} (hs : s < 4) (ho : op s = true) (hw : wc s ≤ 12) (hp : ∀ p, p < wc s → wk (12 * s + p) < 64) (hy : key < 64) (h : (ql_l wk wr (12 * s) key (sn (64 * s + key)) (wc s) = 1000000000000 → post 0) ∧ (¬ ql_l wk wr (12 * s) key (sn (64 * s + key)) (wc s) = 1000000000000 → post 1)) : wpX_seen post (g, nI C, nI D, ro, dr, qn_F lw, qb_F op, qb_F se, qn_F st, sn, rx, qn_F wc, qn_F wk, wr, qn_F sc, qn_F sv, qn_F pn, pr, pw, qb_F pO, qb_F pI) (nI s) (nI key) := by
  unfold wpX_seen
  dsimp only
  refine wx_isOpenT hs ho (br_f (by decide) ?_)
  refine wx_isKeyT hy (br_f (by decide) ?_)
  exact wx_vis hs hw hp hy h
theorem my_seen {post : Int32 → Prop} {s key : Nat} (hs : s < 4) (ho : op s = true) (hw : yc s ≤ 12) (hp : ∀ p, p < yc s → wk (12 * s + p) < 64) (hy : key < 64) (hH : H ≤ 520) (hm : st s < 2 ^ 31) (hh : ∀ i, i < H → hc i < 2 ^ 31 ∧ hk i < 2 ^ 31) (h : (ql_l wk (qv_v yt yv) (12 * s) key (qa_f hc hk (qv_v ht hv) (st s) key H) (yc s) = 1000000000000 → post 0) ∧ (¬ ql_l wk (qv_v yt yv) (12 * s) key (qa_f hc hk (qv_v ht hv) (st s) key H) (yc s) = 1000000000000 → post 1)) : wpY_seen post (g, nI C, nI D, nI H, qn_F hc, qn_F hk, hv, qb_F ht, qn_F cs, cr, cw, qb_F kn, qb_F op, qb_F se, qn_F st, ry, qn_F yc, qn_F ys, qn_F wk, yv, qb_F yt, qn_F sv) (nI s) (nI key) := by
  unfold wpY_seen
  dsimp only
  refine wy_isOpenT hs ho (br_f (by decide) ?_)
  refine wy_isKeyT hy (br_f (by decide) ?_)
  exact wy_sees hs hw hp hy hH hm hh h
theorem mx_next {post : Int32 → SX → Prop} {s key : Nat} {F : Nat → Int64} (hs : s < 4) (ho : op s = true) (hw : wc s ≤ 12) (hp : ∀ p, p < wc s → wk (12 * s + p) < 64) (hy : key < 64) (hF : ∀ key, key < 64 → ql_l wk wr (12 * s) key (sn (64 * s + key)) (wc s) = F key) (h : post (nI (qx_n F (qo_v wk (wc s) (12 * s)) (64 - key) key (rx s)).1) (g, nI C, nI D, ro, dr, qn_F lw, qb_F op, qb_F se, qn_F st, sn, qu_p rx s (qx_n F (qo_v wk (wc s) (12 * s)) (64 - key) key (rx s)).2, qn_F wc, qn_F wk, wr, qn_F sc, qn_F sv, qn_F pn, pr, pw, qb_F pO, qb_F pI)) : wpX_next post (g, nI C, nI D, ro, dr, qn_F lw, qb_F op, qb_F se, qn_F st, sn, rx, qn_F wc, qn_F wk, wr, qn_F sc, qn_F sv, qn_F pn, pr, pw, qb_F pO, qb_F pI) (nI s) (nI key) := by
  unfold wpX_next
  dsimp only
  refine wx_isOpenT hs ho (br_f (by decide) ?_)
  refine wx_isKeyT hy (br_f (by decide) ?_)
  have hl := wx_nx20 hs hw hp hF (64 - key) key (rx s) (by omega) h
  rw [qu_id] at hl
  exact ⟨_, hl⟩
theorem my_next {post : Int32 → SY → Prop} {s key : Nat} {F : Nat → Int64} (hs : s < 4) (ho : op s = true) (hw : yc s ≤ 12) (hp : ∀ p, p < yc s → wk (12 * s + p) < 64) (hy : key < 64) (hH : H ≤ 520) (hm : st s < 2 ^ 31) (hh : ∀ i, i < H → hc i < 2 ^ 31 ∧ hk i < 2 ^ 31) (hF : ∀ key, key < 64 → ql_l wk (qv_v yt yv) (12 * s) key (qa_f hc hk (qv_v ht hv) (st s) key H) (yc s) = F key) (h : post (nI (qx_n F (qo_v wk (yc s) (12 * s)) (64 - key) key (ry s)).1) (g, nI C, nI D, nI H, qn_F hc, qn_F hk, hv, qb_F ht, qn_F cs, cr, cw, qb_F kn, qb_F op, qb_F se, qn_F st, qu_p ry s (qx_n F (qo_v wk (yc s) (12 * s)) (64 - key) key (ry s)).2, qn_F yc, qn_F ys, qn_F wk, yv, qb_F yt, qn_F sv)) : wpY_next post (g, nI C, nI D, nI H, qn_F hc, qn_F hk, hv, qb_F ht, qn_F cs, cr, cw, qb_F kn, qb_F op, qb_F se, qn_F st, ry, qn_F yc, qn_F ys, qn_F wk, yv, qb_F yt, qn_F sv) (nI s) (nI key) := by
  unfold wpY_next
  dsimp only
  refine wy_isOpenT hs ho (br_f (by decide) ?_)
  refine wy_isKeyT hy (br_f (by decide) ?_)
  have hl := wy_nx20 hs hw hp hH hm hh hF (64 - key) key (ry s) (by omega) h
  rw [qu_id] at hl
  exact ⟨_, hl⟩
theorem mx_sum {post : Int64 → SX → Prop} {s lo hb : Nat} {F : Nat → Int64} (hs : s < 4) (ho : op s = true) (hw : wc s ≤ 12) (hp : ∀ p, p < wc s → wk (12 * s + p) < 64) (hy : lo < 64) (hb64 : hb < 64) (hF : ∀ key, key < 64 → ql_l wk wr (12 * s) key (sn (64 * s + key)) (wc s) = F key) (h : post (qx_s F (qo_v wk (wc s) (12 * s)) (hb + 1 - lo) lo 0 (rx s)).1 (g, nI C, nI D, ro, dr, qn_F lw, qb_F op, qb_F se, qn_F st, sn, qu_p rx s (qx_s F (qo_v wk (wc s) (12 * s)) (hb + 1 - lo) lo 0 (rx s)).2, qn_F wc, qn_F wk, wr, qn_F sc, qn_F sv, qn_F pn, pr, pw, qb_F pO, qb_F pI)) : wpX_sum post (g, nI C, nI D, ro, dr, qn_F lw, qb_F op, qb_F se, qn_F st, sn, rx, qn_F wc, qn_F wk, wr, qn_F sc, qn_F sv, qn_F pn, pr, pw, qb_F pO, qb_F pI) (nI s) (nI lo) (nI hb) := by
  unfold wpX_sum
  dsimp only
  refine wx_isOpenT hs ho (br_f (by decide) ?_)
  refine wx_isKeyT hy (br_f (by decide) ?_)
  refine wx_isKeyT hb64 (br_f (by decide) ?_)
  have hl := wx_sm34 hs hw hp hF hb64 (hb + 1 - lo) lo 0 (rx s) (by omega) (by omega) h
  rw [qu_id] at hl
  exact ⟨_, hl⟩
theorem my_sum {post : Int64 → SY → Prop} {s lo hb : Nat} {F : Nat → Int64} (hs : s < 4) (ho : op s = true) (hw : yc s ≤ 12) (hp : ∀ p, p < yc s → wk (12 * s + p) < 64) (hy : lo < 64) (hb64 : hb < 64) (hH : H ≤ 520) (hm : st s < 2 ^ 31) (hh : ∀ i, i < H → hc i < 2 ^ 31 ∧ hk i < 2 ^ 31) (hF : ∀ key, key < 64 → ql_l wk (qv_v yt yv) (12 * s) key (qa_f hc hk (qv_v ht hv) (st s) key H) (yc s) = F key) (h : post (qx_s F (qo_v wk (yc s) (12 * s)) (hb + 1 - lo) lo 0 (ry s)).1 (g, nI C, nI D, nI H, qn_F hc, qn_F hk, hv, qb_F ht, qn_F cs, cr, cw, qb_F kn, qb_F op, qb_F se, qn_F st, qu_p ry s (qx_s F (qo_v wk (yc s) (12 * s)) (hb + 1 - lo) lo 0 (ry s)).2, qn_F yc, qn_F ys, qn_F wk, yv, qb_F yt, qn_F sv)) : wpY_sum post (g, nI C, nI D, nI H, qn_F hc, qn_F hk, hv, qb_F ht, qn_F cs, cr, cw, qb_F kn, qb_F op, qb_F se, qn_F st, ry, qn_F yc, qn_F ys, qn_F wk, yv, qb_F yt, qn_F sv) (nI s) (nI lo) (nI hb) := by
  unfold wpY_sum
  dsimp only
  refine wy_isOpenT hs ho (br_f (by decide) ?_)
  refine wy_isKeyT hy (br_f (by decide) ?_)
  refine wy_isKeyT hb64 (br_f (by decide) ?_)
  have hl := wy_sm34 hs hw hp hH hm hh hF hb64 (hb + 1 - lo) lo 0 (ry s) (by omega) (by omega) h
  rw [qu_id] at hl
  exact ⟨_, hl⟩
theorem mx_write {post : Int32 → SX → Prop} {s key : Nat} {x : Int32} {b : Bool} (hs : s < 4) (ho : op s = true) (hw : ∀ o, o < 4 → wc o ≤ 12) (hp : ∀ o, o < 4 → ∀ p, p < wc o → wk (12 * o + p) < 64) (hy : key < 64) (hl : lw key < 2 ^ 31) (hm : st s < 2 ^ 31) (r : Bool) (hr : r = true ↔ ∃ o, o < 4 ∧ o ≠ s ∧ qw_W wk (12 * o) key (wc o) = true) (h1 : r = true → post 1 (g, nI C, nI D, ro, dr, qn_F lw, qb_F op, qb_F se, qn_F st, sn, rx, qn_F wc, qn_F wk, wr, qn_F sc, qn_F sv, qn_F pn, pr, pw, qb_F pO, qb_F pI)) (h2 : r = false → st s < lw key → post 2 (g, nI C, nI D, ro, dr, qn_F lw, qb_F (qu_p op s false), qb_F se, qn_F st, sn, qu_p rx s 0, qn_F (qu_p wc s 0), qn_F wk, wr, qn_F (qu_p sc s 0), qn_F sv, qn_F pn, pr, pw, qb_F pO, qb_F pI)) (h4 : r = false → ¬ st s < lw key → ¬ wc s < 12 → post 4 (g, nI C, nI D, ro, dr, qn_F lw, qb_F op, qb_F se, qn_F st, sn, rx, qn_F wc, qn_F wk, wr, qn_F sc, qn_F sv, qn_F pn, pr, pw, qb_F pO, qb_F pI)) (h0 : r = false → ¬ st s < lw key → wc s < 12 → post 0 (g, nI C, nI D, ro, dr, qn_F lw, qb_F op, qb_F se, qn_F st, sn, rx, qn_F (qu_p wc s (wc s + 1)), qn_F (qu_p wk (12 * s + wc s) key), qu_p wr (12 * s + wc s) (if b = true then x.toInt64 else 1000000000000), qn_F sc, qn_F sv, qn_F pn, pr, pw, qb_F pO, qb_F pI)) : wpX_write post (g, nI C, nI D, ro, dr, qn_F lw, qb_F op, qb_F se, qn_F st, sn, rx, qn_F wc, qn_F wk, wr, qn_F sc, qn_F sv, qn_F pn, pr, pw, qb_F pO, qb_F pI) (nI s) (nI key) x (qb_i b) := by
  unfold wpX_write
  dsimp only
  refine wx_isOpenT hs ho (br_f (by decide) ?_)
  refine wx_isKeyT hy (br_f (by decide) ?_)
  refine wx_lk hs hw hp hy r hr ?_
  have hw12 := hw s hs
  have hs4 : vp_in (nI s) 4 := vp_in_nI hs (by omega)
  simp only [nI_clamp (show s < 2 ^ 31 by omega), nI_clamp (show key < 2 ^ 31 by omega), qn_at]
  refine qb_br (fun e => ⟨vp_in_nI hy (by omega), hs4, pk_le (lw key) (st s) (fun e1 => ⟨hs4, nm_e ?_⟩) (fun e1 => wx_end hs (h2 e e1))⟩) (fun e => h1 e)
  simp only [qi_12, nI_clamp (show 12 * s + wc s < 2 ^ 31 by omega), qn_U]
  refine pk_lt (wc s) 12 (fun e2 => ⟨vp_in_nI (by omega) (by omega), nm_e ?_⟩) (fun e2 => h4 e (by omega) (by omega))
  have hq := h0 e (by omega) e2
  refine qb_br (fun e3 => ?_) (fun e3 => ?_)
  · unfold wX_write_105
    simp only [nI_clamp (show s < 2 ^ 31 by omega), nI_clamp (show 12 * s + wc s < 2 ^ 31 by omega), nI_1, qn_U, qu_L]
    rw [if_neg (by rw [e3]; decide)] at hq
    exact ⟨vp_in_nI (by omega) (by omega), nm_e ⟨hs4, nm_e hq⟩⟩
  · unfold wX_write_105
    simp only [nI_clamp (show s < 2 ^ 31 by omega), nI_clamp (show 12 * s + wc s < 2 ^ 31 by omega), nI_1, qn_U, qu_L]
    rw [if_pos e3] at hq
    exact ⟨vp_in_nI (by omega) (by omega), nm_e ⟨hs4, nm_e hq⟩⟩
theorem my_write {post : Int32 → SY → Prop} {s key : Nat} {x : Int32} {b : Bool} (hs : s < 4) (ho : op s = true) (hw : ∀ o, o < 4 → op o = true → yc o ≤ 12) (hp : ∀ o, o < 4 → op o = true → ∀ p, p < yc o → wk (12 * o + p) < 64) (hy : key < 64) (hH : H ≤ 520) (hm : st s < 2 ^ 31) (hh : ∀ i, i < H → hc i < 2 ^ 31 ∧ hk i < 2 ^ 31) (h1 : (∃ o, o < 4 ∧ o ≠ s ∧ op o = true ∧ qw_W wk (12 * o) key (yc o) = true) → post 1 (g, nI C, nI D, nI H, qn_F hc, qn_F hk, hv, qb_F ht, qn_F cs, cr, cw, qb_F kn, qb_F op, qb_F se, qn_F st, ry, qn_F yc, qn_F ys, qn_F wk, yv, qb_F yt, qn_F sv)) (h2 : ¬ (∃ o, o < 4 ∧ o ≠ s ∧ op o = true ∧ qw_W wk (12 * o) key (yc o) = true) → (∃ i, i < H ∧ st s < hc i ∧ hk i = key) → post 2 (g, nI C, nI D, nI H, qn_F hc, qn_F hk, hv, qb_F ht, qn_F cs, cr, cw, qb_F kn, qb_F (qu_p op s false), qb_F se, qn_F st, ry, qn_F yc, qn_F ys, qn_F wk, yv, qb_F yt, qn_F sv)) (h0 : ¬ (∃ o, o < 4 ∧ o ≠ s ∧ op o = true ∧ qw_W wk (12 * o) key (yc o) = true) → ¬ (∃ i, i < H ∧ st s < hc i ∧ hk i = key) → (yc s = 12 → post 4 (g, nI C, nI D, nI H, qn_F hc, qn_F hk, hv, qb_F ht, qn_F cs, cr, cw, qb_F kn, qb_F op, qb_F se, qn_F st, ry, qn_F yc, qn_F ys, qn_F wk, yv, qb_F yt, qn_F sv)) ∧ (yc s ≠ 12 → post 0 (g, nI C, nI D, nI H, qn_F hc, qn_F hk, hv, qb_F ht, qn_F cs, cr, cw, qb_F kn, qb_F op, qb_F se, qn_F st, ry, qn_F (qu_p yc s (yc s + 1)), qn_F ys, qn_F (qu_p wk (12 * s + yc s) key), qu_p yv (12 * s + yc s) x, qb_F (qu_p yt (12 * s + yc s) b), qn_F sv))) : wpY_write post (g, nI C, nI D, nI H, qn_F hc, qn_F hk, hv, qb_F ht, qn_F cs, cr, cw, qb_F kn, qb_F op, qb_F se, qn_F st, ry, qn_F yc, qn_F ys, qn_F wk, yv, qb_F yt, qn_F sv) (nI s) (nI key) x (qb_i b) := by
  unfold wpY_write
  dsimp only
  refine wy_isOpenT hs ho (br_f (by decide) ?_)
  refine wy_isKeyT hy (br_f (by decide) ?_)
  exact ⟨5, wy_wr21 hs hw hp hy h1 (fun a => ⟨H + 1, wy_wr64 hs (hw s hs ho) hy hH hm hh (h2 a) (h0 a) H 0 (by omega) (fun q hq => by omega)⟩) 4 0 (by omega) (fun o ho => by omega)⟩
theorem mx_save {post : Int32 → SX → Prop} {s : Nat} (hs : s < 4) (ho : op s = true) (h3 : sc s ≤ 3) (h : (sc s < 3 → post 0 (g, nI C, nI D, ro, dr, qn_F lw, qb_F op, qb_F se, qn_F st, sn, rx, qn_F wc, qn_F wk, wr, qn_F (qu_p sc s (sc s + 1)), qn_F (qu_p sv (3 * s + sc s) (wc s)), qn_F pn, pr, pw, qb_F pO, qb_F pI)) ∧ (¬ sc s < 3 → post 4 (g, nI C, nI D, ro, dr, qn_F lw, qb_F op, qb_F se, qn_F st, sn, rx, qn_F wc, qn_F wk, wr, qn_F sc, qn_F sv, qn_F pn, pr, pw, qb_F pO, qb_F pI))) : wpX_save post (g, nI C, nI D, ro, dr, qn_F lw, qb_F op, qb_F se, qn_F st, sn, rx, qn_F wc, qn_F wk, wr, qn_F sc, qn_F sv, qn_F pn, pr, pw, qb_F pO, qb_F pI) (nI s) := by
  unfold wpX_save
  dsimp only
  refine wx_isOpenT hs ho (br_f (by decide) ?_)
  have hs4 : vp_in (nI s) 4 := vp_in_nI hs (by omega)
  simp only [nI_clamp (show s < 2 ^ 31 by omega), qn_at]
  refine ⟨hs4, nm_e ?_⟩
  simp only [qi_3, nI_clamp (show 3 * s + sc s < 2 ^ 31 by omega), qn_U, nI_1]
  exact pk_lt (sc s) 3 (fun e => ⟨hs4, vp_in_nI (by omega) (by omega), nm_e ⟨hs4, nm_e (h.1 e)⟩⟩) (fun e => h.2 (by omega))
theorem my_save {post : Int32 → SY → Prop} {s : Nat} (hs : s < 4) (ho : op s = true) (h3 : ys s ≤ 3) (h : (ys s < 3 → post 0 (g, nI C, nI D, nI H, qn_F hc, qn_F hk, hv, qb_F ht, qn_F cs, cr, cw, qb_F kn, qb_F op, qb_F se, qn_F st, ry, qn_F yc, qn_F (qu_p ys s (ys s + 1)), qn_F wk, yv, qb_F yt, qn_F (qu_p sv (3 * s + ys s) (yc s)))) ∧ (¬ ys s < 3 → post 4 (g, nI C, nI D, nI H, qn_F hc, qn_F hk, hv, qb_F ht, qn_F cs, cr, cw, qb_F kn, qb_F op, qb_F se, qn_F st, ry, qn_F yc, qn_F ys, qn_F wk, yv, qb_F yt, qn_F sv))) : wpY_save post (g, nI C, nI D, nI H, qn_F hc, qn_F hk, hv, qb_F ht, qn_F cs, cr, cw, qb_F kn, qb_F op, qb_F se, qn_F st, ry, qn_F yc, qn_F ys, qn_F wk, yv, qb_F yt, qn_F sv) (nI s) := by
  unfold wpY_save
  dsimp only
  refine wy_isOpenT hs ho (br_f (by decide) ?_)
  have hs4 : vp_in (nI s) 4 := vp_in_nI hs (by omega)
  simp only [nI_clamp (show s < 2 ^ 31 by omega), qn_at, qi_3, nI_clamp (show 3 * s + ys s < 2 ^ 31 by omega), qn_U, nI_1]
  exact ⟨hs4, pk_eq (ys s) 3 (fun e => h.2 (by omega)) (fun e => ⟨hs4, hs4, vp_in_nI (by omega) (by omega), nm_e ⟨hs4, hs4, nm_e (h.1 (by omega))⟩⟩)⟩
theorem mx_undo {post : Int32 → SX → Prop} {s : Nat} (hs : s < 4) (ho : op s = true) (h3 : sc s ≤ 3) (h4 : sc s = 0 → post 4 (g, nI C, nI D, ro, dr, qn_F lw, qb_F op, qb_F se, qn_F st, sn, rx, qn_F wc, qn_F wk, wr, qn_F sc, qn_F sv, qn_F pn, pr, pw, qb_F pO, qb_F pI)) (h0 : ∀ q, sc s = q + 1 → post 0 (g, nI C, nI D, ro, dr, qn_F lw, qb_F op, qb_F se, qn_F st, sn, rx, qn_F (qu_p wc s (sv (3 * s + q))), qn_F wk, wr, qn_F (qu_p sc s q), qn_F sv, qn_F pn, pr, pw, qb_F pO, qb_F pI)) : wpX_undo post (g, nI C, nI D, ro, dr, qn_F lw, qb_F op, qb_F se, qn_F st, sn, rx, qn_F wc, qn_F wk, wr, qn_F sc, qn_F sv, qn_F pn, pr, pw, qb_F pO, qb_F pI) (nI s) := by
  unfold wpX_undo
  dsimp only
  refine wx_isOpenT hs ho (br_f (by decide) ?_)
  have hs4 : vp_in (nI s) 4 := vp_in_nI hs (by omega)
  simp only [nI_clamp (show s < 2 ^ 31 by omega), qn_at]
  refine ⟨hs4, ?_⟩
  cases e : sc s with
  | zero => exact nm_e (br_f (by decide) (h4 e))
  | succ q =>
    rw [nI_pred]
    refine nm_e ?_
    simp only [qi_3, nI_clamp (show 3 * s + q < 2 ^ 31 by omega), qn_U]
    exact pk_le 0 q (fun _ => ⟨vp_in_nI (by omega) (by omega), hs4, nm_e ⟨hs4, nm_e (h0 q e)⟩⟩) (fun h => absurd h (by omega))
theorem my_undo {post : Int32 → SY → Prop} {s : Nat} (hs : s < 4) (ho : op s = true) (h3 : ys s ≤ 3) (h4 : ys s = 0 → post 4 (g, nI C, nI D, nI H, qn_F hc, qn_F hk, hv, qb_F ht, qn_F cs, cr, cw, qb_F kn, qb_F op, qb_F se, qn_F st, ry, qn_F yc, qn_F ys, qn_F wk, yv, qb_F yt, qn_F sv)) (h0 : ∀ q, ys s = q + 1 → post 0 (g, nI C, nI D, nI H, qn_F hc, qn_F hk, hv, qb_F ht, qn_F cs, cr, cw, qb_F kn, qb_F op, qb_F se, qn_F st, ry, qn_F (qu_p yc s (sv (3 * s + q))), qn_F (qu_p ys s q), qn_F wk, yv, qb_F yt, qn_F sv)) : wpY_undo post (g, nI C, nI D, nI H, qn_F hc, qn_F hk, hv, qb_F ht, qn_F cs, cr, cw, qb_F kn, qb_F op, qb_F se, qn_F st, ry, qn_F yc, qn_F ys, qn_F wk, yv, qb_F yt, qn_F sv) (nI s) := by
  unfold wpY_undo
  dsimp only
  refine wy_isOpenT hs ho (br_f (by decide) ?_)
  have hs4 : vp_in (nI s) 4 := vp_in_nI hs (by omega)
  simp only [nI_clamp (show s < 2 ^ 31 by omega), qn_at]
  cases e : ys s with
  | zero => exact ⟨hs4, br_t rfl (h4 e)⟩
  | succ q =>
    rw [nI_pred]
    refine ⟨hs4, br_f (nI_ne0 (by omega) (by omega)) ⟨hs4, hs4, nm_e ⟨hs4, ?_⟩⟩⟩
    simp only [qn_U, qn_at, qu_s, qi_3, nI_clamp (show 3 * s + q < 2 ^ 31 by omega)]
    exact ⟨vp_in_nI (by omega) (by omega), hs4, nm_e (h0 q e)⟩
end
