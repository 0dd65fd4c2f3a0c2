section
variable {g : Int32} {k C D H : Nat} {ro dr sn rx wr pr pw cr cw ry : Nat → Int64} {lw st wc wk sc sv pn hc hk cs yc ys : Nat → Nat} {op se pO pI ht kn yt : Nat → Bool} {hv yv : Nat → Int32}
theorem mx_co80 {post : Int32 → SX → Prop} {s : Nat} (hs : s < 4) (h : (nI C - nI D < g → post 0 (g, nI C, nI D, ro, dr, qn_F lw, qb_F (qu_p op s false), qb_F se, qn_F st, sn, qu_p rx s 0, qn_F (qu_p wc s 0), qn_F wk, wr, qn_F (qu_p sc s 0), qn_F sv, qn_F pn, pr, pw, qb_F pO, qb_F pI)) ∧ (¬ nI C - nI D < g → post 0 (g, nI C, nI C, ro, qk_c dr ro 0 64, qn_F lw, qb_F (qu_p op s false), qb_F se, qn_F st, sn, qu_p rx s 0, qn_F (qu_p wc s 0), qn_F wk, wr, qn_F (qu_p sc s 0), qn_F sv, qn_F pn, pr, pw, qb_F pO, qb_F pI))) : wX_commit_80 post (nI s) g (nI C) (nI D) ro dr (qn_F lw) (qb_F op) (qb_F se) (qn_F st) sn rx (qn_F wc) (qn_F wk) wr (qn_F sc) (qn_F sv) (qn_F pn) pr pw (qb_F pO) (qb_F pI) := by
  unfold wX_commit_80
  refine wx_end hs ?_
  dsimp only
  exact br_c (fun e => h.1 e) (fun e => wx_md (h.2 e))
theorem mx_co51 {post : Int32 → SX → Prop} {s : Nat} (hs : s < 4) (hw : wc s ≤ 12) (hp : ∀ p, p < wc s → wk (12 * s + p) < 64) (hse : se s = false) (h : (nI (C + 1) - nI D < g → post 0 (g, nI (C + 1), nI D, qr_R wk wr (12 * s) ro (wc s), dr, qn_F (qr_N wk (C + 1) (12 * s) lw (wc s)), qb_F (qu_p op s false), qb_F se, qn_F st, sn, qu_p rx s 0, qn_F (qu_p wc s 0), qn_F wk, wr, qn_F (qu_p sc s 0), qn_F sv, qn_F pn, pr, pw, qb_F pO, qb_F pI)) ∧ (¬ nI (C + 1) - nI D < g → post 0 (g, nI (C + 1), nI (C + 1), qr_R wk wr (12 * s) ro (wc s), qk_c dr (qr_R wk wr (12 * s) ro (wc s)) 0 64, qn_F (qr_N wk (C + 1) (12 * s) lw (wc s)), qb_F (qu_p op s false), qb_F se, qn_F st, sn, qu_p rx s 0, qn_F (qu_p wc s 0), qn_F wk, wr, qn_F (qu_p sc s 0), qn_F sv, qn_F pn, pr, pw, qb_F pO, qb_F pI))) : wX_commit_51 post (nI s) g (nI C) (nI D) ro dr (qn_F lw) (qb_F op) (qb_F se) (qn_F st) sn rx (qn_F wc) (qn_F wk) wr (qn_F sc) (qn_F sv) (qn_F pn) pr pw (qb_F pO) (qb_F pI) := by
  unfold wX_commit_51
  refine nm_r (nI_1 C) ?_
  refine wx_ap hs hw hp ?_
  dsimp only
  refine ⟨vp_in_nI hs (by omega), br_t ?_ (mx_co80 hs h)⟩
  rw [nI_clamp (show s < 2 ^ 31 by omega), qb_at, hse]
  rfl
theorem mx_co51s {post : Int32 → SX → Prop} {s : Nat} (hs : s < 4) (ho : op s = true) (hw : wc s ≤ 12) (hp : ∀ p, p < wc s → wk (12 * s + p) < 64) (hse : se s = true) (h1 : ∀ s, s < 4 → op s = true → st s < 2 ^ 31) (h2 : ∀ i, i < 8 → pn i < 2 ^ 31) (hx : ∃ f, f < 8 ∧ qt_K op se st (nI s) (pn f) = false) (h : ∀ f, f < 8 → qt_K op se st (nI s) (pn f) = false → (nI (C + 1) - nI D < g → post 0 (g, nI (C + 1), nI D, qr_R wk wr (12 * s) ro (wc s), dr, qn_F (qr_N wk (C + 1) (12 * s) lw (wc s)), qb_F (qu_p op s false), qb_F se, qn_F st, sn, qu_p rx s 0, qn_F (qu_p wc s 0), qn_F wk, wr, qn_F (qu_p sc s 0), qn_F sv, qn_F (qu_p pn f (C + 1)), qu_p pr f (rx s), qu_p pw f (qm_s wk (12 * s) (wc s)), qb_F (qu_p (qf_m pO (qt_R st pn pr (qm_s wk (12 * s) (wc s)) s) 8) f (qe_x (qt_T st pn rx pw s) 8)), qb_F (qu_p (qf_m pI (qt_T st pn rx pw s) 8) f (qe_x (qt_R st pn pr (qm_s wk (12 * s) (wc s)) s) 8)))) ∧ (¬ nI (C + 1) - nI D < g → post 0 (g, nI (C + 1), nI (C + 1), qr_R wk wr (12 * s) ro (wc s), qk_c dr (qr_R wk wr (12 * s) ro (wc s)) 0 64, qn_F (qr_N wk (C + 1) (12 * s) lw (wc s)), qb_F (qu_p op s false), qb_F se, qn_F st, sn, qu_p rx s 0, qn_F (qu_p wc s 0), qn_F wk, wr, qn_F (qu_p sc s 0), qn_F sv, qn_F (qu_p pn f (C + 1)), qu_p pr f (rx s), qu_p pw f (qm_s wk (12 * s) (wc s)), qb_F (qu_p (qf_m pO (qt_R st pn pr (qm_s wk (12 * s) (wc s)) s) 8) f (qe_x (qt_T st pn rx pw s) 8)), qb_F (qu_p (qf_m pI (qt_T st pn rx pw s) 8) f (qe_x (qt_R st pn pr (qm_s wk (12 * s) (wc s)) s) 8))))) : wX_commit_51 post (nI s) g (nI C) (nI D) ro dr (qn_F lw) (qb_F op) (qb_F se) (qn_F st) sn rx (qn_F wc) (qn_F wk) wr (qn_F sc) (qn_F sv) (qn_F pn) pr pw (qb_F pO) (qb_F pI) := by
  unfold wX_commit_51
  refine nm_r (nI_1 C) ?_
  refine wx_ap hs hw hp ?_
  dsimp only
  refine ⟨vp_in_nI hs (by omega), br_f ?_ ?_⟩
  · rw [nI_clamp (show s < 2 ^ 31 by omega), qb_at, hse]
    decide
  · refine wx_rem hs hw h1 ho h2 hx (fun f hf e => ?_)
    dsimp only
    exact mx_co80 hs (h f hf e)
theorem mx_commit0 {post : Int32 → SX → Prop} {s : Nat} (hs : s < 4) (ho : op s = true) (hse : se s = false) (h : wX_commit_51 post (nI s) g (nI C) (nI D) ro dr (qn_F lw) (qb_F op) (qb_F se) (qn_F st) sn rx (qn_F wc) (qn_F wk) wr (qn_F sc) (qn_F sv) (qn_F pn) pr pw (qb_F pO) (qb_F pI)) : wpX_commit post (g, nI C, nI D, ro, dr, qn_F lw, qb_F op, qb_F se, qn_F st, sn, rx, qn_F wc, qn_F wk, wr, qn_F sc, qn_F sv, qn_F pn, pr, pw, qb_F pO, qb_F pI) (nI s) := by
  unfold wpX_commit
  dsimp only
  refine wx_isOpenT hs ho (br_f (by decide) ⟨vp_in_nI hs (by omega), br_t ?_ h⟩)
  rw [nI_clamp (show s < 2 ^ 31 by omega), qb_at, hse]
  rfl
theorem mx_commit1 {post : Int32 → SX → Prop} {s : Nat} (hs : s < 4) (ho : op s = true) (hse : se s = true) (hw : wc s ≤ 12) (h1 : ∀ s, s < 4 → op s = true → st s < 2 ^ 31) (h2 : ∀ i, i < 8 → pn i < 2 ^ 31) (r : Bool) (hr : r = true ↔ (∃ i, i < 8 ∧ qt_T st pn rx pw s i = true ∧ pO i = true) ∨ (∃ i, i < 8 ∧ qt_R st pn pr (qm_s wk (12 * s) (wc s)) s i = true ∧ pI i = true) ∨ ((∃ i, i < 8 ∧ qt_T st pn rx pw s i = true) ∧ (∃ i, i < 8 ∧ qt_R st pn pr (qm_s wk (12 * s) (wc s)) s i = true))) (h3 : r = true → post 3 (g, nI C, nI D, ro, dr, qn_F lw, qb_F (qu_p op s false), qb_F se, qn_F st, sn, qu_p rx s 0, qn_F (qu_p wc s 0), qn_F wk, wr, qn_F (qu_p sc s 0), qn_F sv, qn_F pn, pr, pw, qb_F pO, qb_F pI)) (h4 : r = false → ¬ qc_c (fun i => qt_K op se st (nI s) (pn i)) 8 < 8 → post 4 (g, nI C, nI D, ro, dr, qn_F lw, qb_F (qu_p op s false), qb_F se, qn_F st, sn, qu_p rx s 0, qn_F (qu_p wc s 0), qn_F wk, wr, qn_F (qu_p sc s 0), qn_F sv, qn_F pn, pr, pw, qb_F pO, qb_F pI)) (h0 : r = false → qc_c (fun i => qt_K op se st (nI s) (pn i)) 8 < 8 → wX_commit_51 post (nI s) g (nI C) (nI D) ro dr (qn_F lw) (qb_F op) (qb_F se) (qn_F st) sn rx (qn_F wc) (qn_F wk) wr (qn_F sc) (qn_F sv) (qn_F pn) pr pw (qb_F pO) (qb_F pI)) : wpX_commit post (g, nI C, nI D, ro, dr, qn_F lw, qb_F op, qb_F se, qn_F st, sn, rx, qn_F wc, qn_F wk, wr, qn_F sc, qn_F sv, qn_F pn, pr, pw, qb_F pO, qb_F pI) (nI s) := by
  unfold wpX_commit
  dsimp only
  refine wx_isOpenT hs ho (br_f (by decide) ⟨vp_in_nI hs (by omega), br_f ?_ ?_⟩)
  · rw [nI_clamp (show s < 2 ^ 31 by omega), qb_at, hse]
    decide
  · refine wx_join hs hw (h1 s hs ho) h2 r hr ?_
    refine qb_br (fun e => ?_) (fun e => wx_end hs (h3 e))
    refine wx_tb h1 h2 ?_
    have hle := qc_le (fun i => qt_K op se st (nI s) (pn i)) 8
    exact pk_lt (qc_c (fun i => qt_K op se st (nI s) (pn i)) 8) 8 (fun e2 => h0 e e2) (fun e2 => wx_end hs (h4 e (by omega)))
theorem my_commit0 {post : Int32 → SY → Prop} {s : Nat} (hs : s < 4) (ho : op s = true) (hse : se s = false) (hw : yc s ≤ 12) (hC : C < 512) (hH : H + yc s ≤ 520) (h : (nI (C + 1) - nI D < g → post 0 (g, nI (C + 1), nI D, nI (H + yc s), qn_F (qk_c hc (fun _ => C + 1) H (yc s)), qn_F (qk_c hk (fun q => wk (12 * s + q)) H (yc s)), qk_c hv (fun q => yv (12 * s + q)) H (yc s), qb_F (qk_c ht (fun q => yt (12 * s + q)) H (yc s)), qn_F (qu_p cs (C + 1) (st s)), qu_p cr (C + 1) (ry s), qu_p cw (C + 1) (qm_s wk (12 * s) (yc s)), qb_F (qu_p kn (C + 1) (se s)), qb_F (qu_p op s false), qb_F se, qn_F st, ry, qn_F yc, qn_F ys, qn_F wk, yv, qb_F yt, qn_F sv)) ∧ (¬ nI (C + 1) - nI D < g → post 0 (g, nI (C + 1), nI (C + 1), nI (H + yc s), qn_F (qk_c hc (fun _ => C + 1) H (yc s)), qn_F (qk_c hk (fun q => wk (12 * s + q)) H (yc s)), qk_c hv (fun q => yv (12 * s + q)) H (yc s), qb_F (qk_c ht (fun q => yt (12 * s + q)) H (yc s)), qn_F (qu_p cs (C + 1) (st s)), qu_p cr (C + 1) (ry s), qu_p cw (C + 1) (qm_s wk (12 * s) (yc s)), qb_F (qu_p kn (C + 1) (se s)), qb_F (qu_p op s false), qb_F se, qn_F st, ry, qn_F yc, qn_F ys, qn_F wk, yv, qb_F yt, qn_F sv))) : wpY_commit post (g, nI C, nI D, nI H, qn_F hc, qn_F hk, hv, qb_F ht, qn_F cs, cr, cw, qb_F kn, qb_F op, qb_F se, qn_F st, ry, qn_F yc, qn_F ys, qn_F wk, yv, qb_F yt, qn_F sv) (nI s) := by
  unfold wpY_commit
  dsimp only
  refine wy_isOpenT hs ho (br_f (by decide) (nm_r (nI_1 C) ?_))
  have hs4 : vp_in (nI s) 4 := vp_in_nI hs (by omega)
  have hn5 : vp_in (nI (C + 1)) 520 := vp_in_nI (by omega) (by omega)
  simp only [nI_clamp (show s < 2 ^ 31 by omega), nI_clamp (show C + 1 < 2 ^ 31 by omega), qn_at, qb_at, qb_nar0, qb_nar, qb_U, qn_U, qu_L]
  refine ⟨hs4, nm_e ⟨hs4, hn5, nm_e ⟨hs4, hn5, nm_e (wy_writeSet hs hw ?_)⟩⟩⟩
  refine ⟨hn5, nm_e ⟨hs4, hn5, nm_e ⟨hs4, br_t (by rw [hse]; rfl) ?_⟩⟩⟩
  refine nm_r (qi_12' s) ⟨yc s + 1, ?_⟩
  have hl := wy_co125 (C := C) hs hw hH h (yc s) 0 (by omega)
  rw [qk_0, qk_0, qk_0, qk_0] at hl
  exact hl
theorem my_commit1 {post : Int32 → SY → Prop} {s : Nat} (hs : s < 4) (ho : op s = true) (hse : se s = true) (hw : yc s ≤ 12) (hC : C < 512) (hH : H + yc s ≤ 520) (h1 : ∀ o, o < 4 → op o = true → st o < 2 ^ 31) (hkn : ∀ j, kn j = true → 1 ≤ j ∧ j ≤ C ∧ cs j < j) (h3 : (∃ m, qr_D (qu_p cs (C + 1) (st s)) (qu_p cr (C + 1) (ry s)) (qu_p cw (C + 1) (qm_s wk (12 * s) (yc s))) (qu_p kn (C + 1) true) (C + 1) m) → post 3 (g, nI C, nI D, nI H, qn_F hc, qn_F hk, hv, qb_F ht, qn_F (qu_p cs (C + 1) (st s)), qu_p cr (C + 1) (ry s), qu_p cw (C + 1) (qm_s wk (12 * s) (yc s)), qb_F (qu_p (qu_p kn (C + 1) true) (C + 1) false), qb_F (qu_p op s false), qb_F se, qn_F st, ry, qn_F yc, qn_F ys, qn_F wk, yv, qb_F yt, qn_F sv)) (h4 : ¬ (∃ m, qr_D (qu_p cs (C + 1) (st s)) (qu_p cr (C + 1) (ry s)) (qu_p cw (C + 1) (qm_s wk (12 * s) (yc s))) (qu_p kn (C + 1) true) (C + 1) m) → ¬ qc_c (fun j => qu_p kn (C + 1) true j && qt_K (qu_p op s false) se st (nI s) j) (C + 1) < 8 → post 4 (g, nI C, nI D, nI H, qn_F hc, qn_F hk, hv, qb_F ht, qn_F (qu_p cs (C + 1) (st s)), qu_p cr (C + 1) (ry s), qu_p cw (C + 1) (qm_s wk (12 * s) (yc s)), qb_F (qu_p (qu_p kn (C + 1) true) (C + 1) false), qb_F (qu_p op s false), qb_F se, qn_F st, ry, qn_F yc, qn_F ys, qn_F wk, yv, qb_F yt, qn_F sv)) (h : ¬ (∃ m, qr_D (qu_p cs (C + 1) (st s)) (qu_p cr (C + 1) (ry s)) (qu_p cw (C + 1) (qm_s wk (12 * s) (yc s))) (qu_p kn (C + 1) true) (C + 1) m) → qc_c (fun j => qu_p kn (C + 1) true j && qt_K (qu_p op s false) se st (nI s) j) (C + 1) < 8 → (nI (C + 1) - nI D < g → post 0 (g, nI (C + 1), nI D, nI (H + yc s), qn_F (qk_c hc (fun _ => C + 1) H (yc s)), qn_F (qk_c hk (fun q => wk (12 * s + q)) H (yc s)), qk_c hv (fun q => yv (12 * s + q)) H (yc s), qb_F (qk_c ht (fun q => yt (12 * s + q)) H (yc s)), qn_F (qu_p cs (C + 1) (st s)), qu_p cr (C + 1) (ry s), qu_p cw (C + 1) (qm_s wk (12 * s) (yc s)), qb_F (qu_p kn (C + 1) true), qb_F (qu_p op s false), qb_F se, qn_F st, ry, qn_F yc, qn_F ys, qn_F wk, yv, qb_F yt, qn_F sv)) ∧ (¬ nI (C + 1) - nI D < g → post 0 (g, nI (C + 1), nI (C + 1), nI (H + yc s), qn_F (qk_c hc (fun _ => C + 1) H (yc s)), qn_F (qk_c hk (fun q => wk (12 * s + q)) H (yc s)), qk_c hv (fun q => yv (12 * s + q)) H (yc s), qb_F (qk_c ht (fun q => yt (12 * s + q)) H (yc s)), qn_F (qu_p cs (C + 1) (st s)), qu_p cr (C + 1) (ry s), qu_p cw (C + 1) (qm_s wk (12 * s) (yc s)), qb_F (qu_p kn (C + 1) true), qb_F (qu_p op s false), qb_F se, qn_F st, ry, qn_F yc, qn_F ys, qn_F wk, yv, qb_F yt, qn_F sv))) : wpY_commit post (g, nI C, nI D, nI H, qn_F hc, qn_F hk, hv, qb_F ht, qn_F cs, cr, cw, qb_F kn, qb_F op, qb_F se, qn_F st, ry, qn_F yc, qn_F ys, qn_F wk, yv, qb_F yt, qn_F sv) (nI s) := by
  have hkn' : ∀ i, qu_p kn (C + 1) true i = true → 1 ≤ i ∧ i ≤ C + 1 := fun i hi => by
    by_cases c : i = C + 1
    · omega
    · rw [qu_n c] at hi
      have := hkn i hi
      omega
  have hcs' : ∀ i, qu_p kn (C + 1) true i = true → qu_p cs (C + 1) (st s) i < 2 ^ 31 := fun i hi => by
    by_cases c : i = C + 1
    · rw [c, qu_s]
      exact h1 s hs ho
    · rw [qu_n c] at hi
      rw [qu_n c]
      have := hkn i hi
      omega
  have h0' : qu_p kn (C + 1) true 0 = false := by
    cases e : qu_p kn (C + 1) true 0
    · rfl
    · have := (hkn' 0 e).1
      omega
  unfold wpY_commit
  dsimp only
  refine wy_isOpenT hs ho (br_f (by decide) (nm_r (nI_1 C) ?_))
  have hs4 : vp_in (nI s) 4 := vp_in_nI hs (by omega)
  have hn5 : vp_in (nI (C + 1)) 520 := vp_in_nI (by omega) (by omega)
  simp only [nI_clamp (show s < 2 ^ 31 by omega), nI_clamp (show C + 1 < 2 ^ 31 by omega), qn_at, qb_at, qb_nar0, qb_nar, qb_U, qn_U, qu_L, hse]
  refine ⟨hs4, nm_e ⟨hs4, hn5, nm_e ⟨hs4, hn5, nm_e (wy_writeSet hs hw ?_)⟩⟩⟩
  refine ⟨hn5, nm_e ⟨hs4, hn5, nm_e ⟨hs4, br_f (by decide) ?_⟩⟩⟩
  have bad : ∀ z : Int32, ¬ z = 0 → post z (g, nI C, nI D, nI H, qn_F hc, qn_F hk, hv, qb_F ht, qn_F (qu_p cs (C + 1) (st s)), qu_p cr (C + 1) (ry s), qu_p cw (C + 1) (qm_s wk (12 * s) (yc s)), qb_F (qu_p (qu_p kn (C + 1) true) (C + 1) false), qb_F (qu_p op s false), qb_F se, qn_F st, ry, qn_F yc, qn_F ys, qn_F wk, yv, qb_F yt, qn_F sv) → wY_commit_106 post (nI s) (nI (C + 1)) z g (nI C) (nI D) (nI H) (qn_F hc) (qn_F hk) hv (qb_F ht) (qn_F (qu_p cs (C + 1) (st s))) (qu_p cr (C + 1) (ry s)) (qu_p cw (C + 1) (qm_s wk (12 * s) (yc s))) (qb_F (qu_p kn (C + 1) true)) (qb_F (qu_p op s false)) (qb_F se) (qn_F st) ry (qn_F yc) (qn_F ys) (qn_F wk) yv (qb_F yt) (qn_F sv) := fun z hz hq => by
    unfold wY_commit_106
    simp only [nI_clamp (show C + 1 < 2 ^ 31 by omega), qb_nar0, qb_U]
    exact br_f hz ⟨hn5, nm_e hq⟩
  refine wy_da hC hcs' hkn' (fun a => br_f (by decide) (bad 3 (by decide) (h3 a))) (fun a => br_t rfl ?_)
  refine wy_tr hC (fun o h4 e => h1 o h4 (qu_off e).2) h0' ?_
  have hle := qc_le (fun j => qu_p kn (C + 1) true j && qt_K (qu_p op s false) se st (nI s) j) (C + 1)
  refine pk_lt (qc_c (fun j => qu_p kn (C + 1) true j && qt_K (qu_p op s false) se st (nI s) j) (C + 1)) 8 (fun e => ?_) (fun e => bad 4 (by decide) (h4 a (by omega)))
  unfold wY_commit_106
  refine br_t rfl (nm_r (qi_12' s) ⟨yc s + 1, ?_⟩)
  have hl := wy_co125 (C := C) hs hw hH (h a e) (yc s) 0 (by omega)
  rw [qk_0, qk_0, qk_0, qk_0] at hl
  exact hl
end
