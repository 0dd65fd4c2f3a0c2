theorem rl_ko {op se : Nat → Bool} {st : Nat → Nat} {s j : Nat} (hs : s < 4) : qt_K (qu_p op s false) se st (nI s) j = qt_K op se st (nI s) j := by
  rw [Bool.eq_iff_iff, qt_iff, qt_iff]
  constructor
  · rintro ⟨o, h1, h2, h3, h4⟩
    exact ⟨o, h1, h2, (qu_off h3).2, h4⟩
  · rintro ⟨o, h1, h2, h3, h4⟩
    have : o ≠ s := fun z => h2 (by rw [z])
    exact ⟨o, h1, h2, by rw [qu_n this]; exact h3, h4⟩
theorem i_vc_commit {k : Nat} {u : SX} {v : SY} (I : i_Rel k u v) (hk : k + 5 ≤ 2561) (v1 : Int32) : wpX_commit (fun r u' => wpY_commit (fun r' v' => r' = r ∧ i_Rel (k + 5) u' v') v v1) u v1 := by
  have I0 := I
  obtain ⟨g, C, D, H, ro, dr, sn, rx, wr, pr, pw, cr, cw, ry, lw, st, wc, wk, sc, sv, pn, hc, hq, cs, yc, ys, op, se, pO, pI, ht, kn, yt, hv, yv, rfl, rfl, hB, hS, hH, hP⟩ := I
  obtain ⟨f1, f2, f3, f4, f5, f6, f7, f8⟩ := rl_facts hB hk hS hH hP
  rcases wx_open v1 with ⟨s, hs, rfl, ho⟩ | ⟨nx, ny⟩
  · obtain ⟨eyc, eys, hsc, erx, hst, hsv, hmono, hwk⟩ := (hS s hs).2.2 ho
    have hge := qs_ge (wc := wc) hs
    have hn : kn (C + 1) = false := by
      cases e : kn (C + 1)
      · rfl
      · have := (hP.1 _ e).2.1
        omega
    have hK : ∀ j, qu_p kn (C + 1) false j = kn j := fun j => by
      by_cases c : j = C + 1
      · rw [c, qu_s, hn]
      · rw [qu_n c]
    have hcs : ∀ (w : Int64) j, j ≤ C → qu_p cs (C + 1) (st s) j = cs j ∧ qu_p cr (C + 1) (rx s) j = cr j ∧ qu_p cw (C + 1) w j = cw j := fun w j hj => ⟨qu_n (by omega), qu_n (by omega), qu_n (by omega)⟩
    have hS' := rl_SC (C' := C + 1) (by omega) (rl_Send (s := s) hS)
    have hH' := rl_Hcommit hs (fun o h4 e => ((hS o h4).2.2 e).2.2.2.2.1) f3 hwk hH
    have hB1 : rl_B (k + 5) (C + 1) D (H + wc s) (qu_p wc s 0) := by
      obtain ⟨b1, b2, b3⟩ := hB
      have := qs_u (wc := wc) (v := 0) hs
      exact ⟨by omega, by omega, by omega⟩
    have hB2 : rl_B (k + 5) (C + 1) (C + 1) (H + wc s) (qu_p wc s 0) := ⟨Nat.le_refl _, hB1.2.1, hB1.2.2⟩
    cases hse : se s
    · have hP' : rl_P (C + 1) (qu_p op s false) se st pn pr pw pO pI (qu_p cs (C + 1) (st s)) (qu_p cr (C + 1) (rx s)) (qu_p cw (C + 1) (qm_s wk (12 * s) (wc s))) (qu_p kn (C + 1) false) := rl_Pend (rl_Pkeep (by omega) hK (hcs _) hP)
      refine mx_commit0 hs ho hse (mx_co51 hs (f5 s hs) (f6 s hs) hse ⟨fun e => ?_, fun e => ?_⟩)
      · refine my_commit0 hs ho hse (by rw [eyc]; exact f5 s hs) f1 (by omega) ⟨fun _ => ⟨rfl, ?_⟩, fun z => absurd e z⟩
        rw [eyc, ← erx, hse]
        exact i_mk hB1 hS' hH' hP'
      · refine my_commit0 hs ho hse (by rw [eyc]; exact f5 s hs) f1 (by omega) ⟨fun z => absurd z e, fun _ => ⟨rfl, ?_⟩⟩
        rw [eyc, ← erx, hse]
        exact i_mk hB2 hS' (rl_Hdur hH') hP'
    · have hD := rl_dang (rx := rx) (w := qm_s wk (12 * s) (wc s)) hs ho hse hP
      have hT : qc_c (fun i => qt_K op se st (nI s) (pn i)) 8 = qc_c (fun j => qu_p kn (C + 1) true j && qt_K (qu_p op s false) se st (nI s) j) (C + 1) := by
        rw [rl_trk hP]
        refine qc_cg (C + 1) (fun j hj => ?_)
        show (kn j && qt_K op se st (nI s) j) = (qu_p kn (C + 1) true j && qt_K (qu_p op s false) se st (nI s) j)
        rw [qu_n (by omega), rl_ko hs]
      have hPf : rl_P C (qu_p op s false) se st pn pr pw pO pI (qu_p cs (C + 1) (st s)) (qu_p cr (C + 1) (rx s)) (qu_p cw (C + 1) (qm_s wk (12 * s) (wc s))) (qu_p (qu_p kn (C + 1) true) (C + 1) false) := by
        rw [qu_qu]
        exact rl_Pend (rl_Pkeep (Nat.le_refl _) hK (hcs _) hP)
      by_cases hJ : (∃ i, i < 8 ∧ qt_T st pn rx pw s i = true ∧ pO i = true) ∨ (∃ i, i < 8 ∧ qt_R st pn pr (qm_s wk (12 * s) (wc s)) s i = true ∧ pI i = true) ∨ ((∃ i, i < 8 ∧ qt_T st pn rx pw s i = true) ∧ (∃ i, i < 8 ∧ qt_R st pn pr (qm_s wk (12 * s) (wc s)) s i = true))
      · refine mx_commit1 hs ho hse (f5 s hs) f7 f8 true ⟨fun _ => hJ, fun _ => rfl⟩ (fun _ => ?_) (fun z => absurd z (by decide)) (fun z => absurd z (by decide))
        refine my_commit1 hs ho hse (by rw [eyc]; exact f5 s hs) f1 (by omega) f7 hP.1 (fun _ => ⟨rfl, ?_⟩) (fun a => ?_) (fun a => ?_)
        · rw [eyc, ← erx]
          exact i_mk (rl_Bend hs hB) (rl_Send hS) (rl_Hend hH) hPf
        · rw [eyc, ← erx] at a
          exact absurd (hD.mpr hJ) a
        · rw [eyc, ← erx] at a
          exact absurd (hD.mpr hJ) a
      · refine mx_commit1 hs ho hse (f5 s hs) f7 f8 false ⟨fun z => absurd z (by decide), fun z => absurd z hJ⟩ (fun z => absurd z (by decide)) (fun _ hfull => ?_) (fun _ hroom => ?_)
        · refine my_commit1 hs ho hse (by rw [eyc]; exact f5 s hs) f1 (by omega) f7 hP.1 (fun a => ?_) (fun _ _ => ⟨rfl, ?_⟩) (fun _ z => ?_)
          · rw [eyc, ← erx] at a
            exact absurd (hD.mp a) hJ
          · rw [eyc, ← erx]
            exact i_mk (rl_Bend hs hB) (rl_Send hS) (rl_Hend hH) hPf
          · rw [← hT] at z
            exact absurd z hfull
        · refine mx_co51s hs ho (f5 s hs) (f6 s hs) hse f7 f8 (rl_free hroom) (fun f hf hfree => ?_)
          have hPc := rl_Pcommit (rx := rx) (w := qm_s wk (12 * s) (wc s)) hs ho hse hf hfree hst hP
          refine ⟨fun e => ?_, fun e => ?_⟩
          · refine my_commit1 hs ho hse (by rw [eyc]; exact f5 s hs) f1 (by omega) f7 hP.1 (fun a => ?_) (fun _ z => ?_) (fun _ _ => ⟨fun _ => ⟨rfl, ?_⟩, fun z => absurd e z⟩)
            · rw [eyc, ← erx] at a
              exact absurd (hD.mp a) hJ
            · rw [← hT] at z
              exact absurd hroom z
            · rw [eyc, ← erx]
              exact i_mk hB1 hS' hH' hPc
          · refine my_commit1 hs ho hse (by rw [eyc]; exact f5 s hs) f1 (by omega) f7 hP.1 (fun a => ?_) (fun _ z => ?_) (fun _ _ => ⟨fun z => absurd z e, fun _ => ⟨rfl, ?_⟩⟩)
            · rw [eyc, ← erx] at a
              exact absurd (hD.mp a) hJ
            · rw [← hT] at z
              exact absurd hroom z
            · rw [eyc, ← erx]
              exact i_mk hB2 hS' (rl_Hdur hH') hPc
  · unfold wpX_commit
    dsimp only
    refine nx _ (br_t rfl ?_)
    unfold wpY_commit
    dsimp only
    exact ny _ (br_t rfl ⟨rfl, i_up I0⟩)
