section
variable {k C D H : Nat} {ro dr sn rx wr pr pw cr cw ry : Nat → Int64} {lw st wc wk sc sv pn hc hq cs yc ys : Nat → Nat} {op se pO pI ht kn yt : Nat → Bool} {hv yv : Nat → Int32}
theorem rl_F {s : Nat} (hs : s < 4) (ho : op s = true) (hS : ∀ o, o < 4 → rl_s C op st wc yc sc ys sv wk rx ry wr yt yv o) (hH : rl_H C D H hc hq ht hv ro dr lw op st sn) : ∀ key, key < 64 → ql_l wk wr (12 * s) key (sn (64 * s + key)) (wc s) = ql_l wk (qv_v yt yv) (12 * s) key (qa_f hc hq (qv_v ht hv) (st s) key H) (yc s) := fun key hy => by
  obtain ⟨eyc, eys, hsc, erx, hst, hsv, hmono, hwk⟩ := (hS s hs).2.2 ho
  rw [eyc, (hH.2.2.2 s hs ho key hy).1]
  exact ql_c _ (fun p hp => (hwk p hp).2)
theorem rl_Bup (hB : rl_B k C D H wc) : rl_B (k + 5) C D H wc := ⟨hB.1, by have := hB.2.1; omega, by have := hB.2.2; omega⟩
theorem rl_Bend {s : Nat} (hs : s < 4) (hB : rl_B k C D H wc) : rl_B (k + 5) C D H (qu_p wc s 0) := by
  obtain ⟨b1, b2, b3⟩ := hB
  have := qs_u (wc := wc) (v := 0) hs
  exact ⟨b1, by omega, by omega⟩
theorem rl_Pend {s : Nat} (h : rl_P C op se st pn pr pw pO pI cs cr cw kn) : rl_P C (qu_p op s false) se st pn pr pw pO pI cs cr cw kn := rl_Pop h (fun o e => (qu_off e).2)
theorem rl_Hend {s : Nat} (h : rl_H C D H hc hq ht hv ro dr lw op st sn) : rl_H C D H hc hq ht hv ro dr lw (qu_p op s false) st sn := rl_Hop h (fun o e => (qu_off e).2)
end
theorem i_vc_begin {k : Nat} {u : SX} {v : SY} (I : i_Rel k u v) (hk : k + 5 ≤ 2561) (v1 : Int32) (v2 : Int32) : wpX_begin (fun r u' => wpY_begin (fun r' v' => r' = r ∧ i_Rel (k + 5) u' v') v v1 (lw_bz v2)) u v1 (lw_bz v2) := by
  have I0 := I
  obtain ⟨g, C, D, H, ro, dr, sn, rx, wr, pr, pw, cr, cw, ry, lw, st, wc, wk, sc, sv, pn, hc, hq, cs, yc, ys, op, se, pO, pI, ht, kn, yt, hv, yv, rfl, rfl, hB, hS, hH, hP⟩ := I
  obtain ⟨f1, f2, f3, f4, f5, f6, f7, f8⟩ := rl_facts hB hk hS hH hP
  obtain ⟨b, hb⟩ := qb_bz v2
  rw [hb]
  rcases pk_ix v1 (n := 4) (by omega) with h | h | ⟨s, hs, rfl⟩
  · exact br_t h (br_t h ⟨rfl, i_up I0⟩)
  · have h0 : ¬ v1 < 0 := fun z => absurd (Int32.lt_of_lt_of_le z (Int32.le_trans (show (0 : Int32) ≤ nI 4 by decide) h)) (Int32.lt_irrefl)
    have h3 : 3 < v1 := Int32.lt_of_lt_of_le (show (3 : Int32) < nI 4 by decide) h
    exact br_f h0 (br_t h (br_f h0 (br_t h3 ⟨rfl, i_up I0⟩)))
  · cases ho : op s
    · exact mx_begin hs ho (my_begin hs ho ⟨rfl, i_mk (rl_Bup hB) (rl_Sbegin hS ho) (rl_Hbegin hs hH) (rl_Pbegin hP)⟩)
    · exact mx_beginR hs ho (my_beginR hs ho ⟨rfl, i_up I0⟩)
theorem i_vc_read {k : Nat} {u : SX} {v : SY} (I : i_Rel k u v) (hk : k + 5 ≤ 2561) (v1 : Int32) (v2 : Int32) : wpX_read (fun r u' => wpY_read (fun r' v' => r' = r ∧ i_Rel (k + 5) u' v') v v1 v2) u v1 v2 := by
  have I0 := I
  obtain ⟨g, C, D, H, ro, dr, sn, rx, wr, pr, pw, cr, cw, ry, lw, st, wc, wk, sc, sv, pn, hc, hq, cs, yc, ys, op, se, pO, pI, ht, kn, yt, hv, yv, rfl, rfl, hB, hS, hH, hP⟩ := I
  obtain ⟨f1, f2, f3, f4, f5, f6, f7, f8⟩ := rl_facts hB hk hS hH hP
  rcases wx_open v1 with ⟨s, hs, rfl, ho⟩ | ⟨nx, ny⟩
  · rcases wx_key v2 with ⟨key, hy, rfl⟩ | ⟨mx, my⟩
    · obtain ⟨eyc, eys, hsc, erx, hst, hsv, hmono, hwk⟩ := (hS s hs).2.2 ho
      refine mx_read hs ho (f5 s hs) (f6 s hs) hy ?_
      refine my_read hs ho (by rw [eyc]; exact f5 s hs) (by rw [eyc]; exact f6 s hs) hy (by omega) (f7 s hs ho) f4 ⟨(rl_F hs ho hS hH key hy).symm, ?_⟩
      rw [eyc, erx]
      exact i_mk (rl_Bup hB) (rl_Srd hS ho) hH hP
    · unfold wpX_read
      dsimp only
      refine wx_isOpenT hs ho (br_f (by decide) (mx _ (br_t rfl ?_)))
      unfold wpY_read
      dsimp only
      exact wy_isOpenT hs ho (br_f (by decide) (my _ (br_t rfl ⟨rfl, i_up I0⟩)))
  · unfold wpX_read
    dsimp only
    refine nx _ (br_t rfl ?_)
    unfold wpY_read
    dsimp only
    exact ny _ (br_t rfl ⟨rfl, i_up I0⟩)
theorem i_vc_next {k : Nat} {u : SX} {v : SY} (I : i_Rel k u v) (hk : k + 5 ≤ 2561) (v1 : Int32) (v2 : Int32) : wpX_next (fun r u' => wpY_next (fun r' v' => r' = r ∧ i_Rel (k + 5) u' v') v v1 v2) u v1 v2 := by
  have I0 := I
  obtain ⟨g, C, D, H, ro, dr, sn, rx, wr, pr, pw, cr, cw, ry, lw, st, wc, wk, sc, sv, pn, hc, hq, cs, yc, ys, op, se, pO, pI, ht, kn, yt, hv, yv, rfl, rfl, hB, hS, hH, hP⟩ := I
  obtain ⟨f1, f2, f3, f4, f5, f6, f7, f8⟩ := rl_facts hB hk hS hH hP
  rcases wx_open v1 with ⟨s, hs, rfl, ho⟩ | ⟨nx, ny⟩
  · rcases wx_key v2 with ⟨key, hy, rfl⟩ | ⟨mx, my⟩
    · obtain ⟨eyc, eys, hsc, erx, hst, hsv, hmono, hwk⟩ := (hS s hs).2.2 ho
      refine mx_next hs ho (f5 s hs) (f6 s hs) hy (rl_F hs ho hS hH) ?_
      refine my_next hs ho (by rw [eyc]; exact f5 s hs) (by rw [eyc]; exact f6 s hs) hy (by omega) (f7 s hs ho) f4 (fun _ _ => rfl) ?_
      rw [eyc, erx]
      exact ⟨rfl, i_mk (rl_Bup hB) (rl_Srd hS ho) hH hP⟩
    · unfold wpX_next
      dsimp only
      refine wx_isOpenT hs ho (br_f (by decide) (mx _ (br_t rfl ?_)))
      unfold wpY_next
      dsimp only
      exact wy_isOpenT hs ho (br_f (by decide) (my _ (br_t rfl ⟨rfl, i_up I0⟩)))
  · unfold wpX_next
    dsimp only
    refine nx _ (br_t rfl ?_)
    unfold wpY_next
    dsimp only
    exact ny _ (br_t rfl ⟨rfl, i_up I0⟩)
theorem i_vc_sum {k : Nat} {u : SX} {v : SY} (I : i_Rel k u v) (hk : k + 5 ≤ 2561) (v1 : Int32) (v2 : Int32) (v3 : Int32) : wpX_sum (fun r u' => wpY_sum (fun r' v' => r' = r ∧ i_Rel (k + 5) u' v') v v1 v2 v3) u v1 v2 v3 := by
  have I0 := I
  obtain ⟨g, C, D, H, ro, dr, sn, rx, wr, pr, pw, cr, cw, ry, lw, st, wc, wk, sc, sv, pn, hc, hq, cs, yc, ys, op, se, pO, pI, ht, kn, yt, hv, yv, rfl, rfl, hB, hS, hH, hP⟩ := I
  obtain ⟨f1, f2, f3, f4, f5, f6, f7, f8⟩ := rl_facts hB hk hS hH hP
  rcases wx_open v1 with ⟨s, hs, rfl, ho⟩ | ⟨nx, ny⟩
  · rcases wx_key v2 with ⟨lo, hlo, rfl⟩ | ⟨mx, my⟩
    · rcases wx_key v3 with ⟨hb, hhb, rfl⟩ | ⟨mx, my⟩
      · obtain ⟨eyc, eys, hsc, erx, hst, hsv, hmono, hwk⟩ := (hS s hs).2.2 ho
        refine mx_sum hs ho (f5 s hs) (f6 s hs) hlo hhb (rl_F hs ho hS hH) ?_
        refine my_sum hs ho (by rw [eyc]; exact f5 s hs) (by rw [eyc]; exact f6 s hs) hlo hhb (by omega) (f7 s hs ho) f4 (fun _ _ => rfl) ?_
        rw [eyc, erx]
        exact ⟨rfl, i_mk (rl_Bup hB) (rl_Srd hS ho) hH hP⟩
      · unfold wpX_sum
        dsimp only
        refine wx_isOpenT hs ho (br_f (by decide) (wx_isKeyT hlo (br_f (by decide) (mx _ (br_t rfl ?_)))))
        unfold wpY_sum
        dsimp only
        exact wy_isOpenT hs ho (br_f (by decide) (wy_isKeyT hlo (br_f (by decide) (my _ (br_t rfl ⟨rfl, i_up I0⟩)))))
    · unfold wpX_sum
      dsimp only
      refine wx_isOpenT hs ho (br_f (by decide) (mx _ (br_t rfl ?_)))
      unfold wpY_sum
      dsimp only
      exact wy_isOpenT hs ho (br_f (by decide) (my _ (br_t rfl ⟨rfl, i_up I0⟩)))
  · unfold wpX_sum
    dsimp only
    refine nx _ (br_t rfl ?_)
    unfold wpY_sum
    dsimp only
    exact ny _ (br_t rfl ⟨rfl, i_up I0⟩)
theorem i_vc_write {k : Nat} {u : SX} {v : SY} (I : i_Rel k u v) (hk : k + 5 ≤ 2561) (v1 : Int32) (v2 : Int32) (v3 : Int32) (v4 : Int32) : wpX_write (fun r u' => wpY_write (fun r' v' => r' = r ∧ i_Rel (k + 5) u' v') v v1 v2 v3 (lw_bz v4)) u v1 v2 v3 (lw_bz v4) := by
  have I0 := I
  obtain ⟨g, C, D, H, ro, dr, sn, rx, wr, pr, pw, cr, cw, ry, lw, st, wc, wk, sc, sv, pn, hc, hq, cs, yc, ys, op, se, pO, pI, ht, kn, yt, hv, yv, rfl, rfl, hB, hS, hH, hP⟩ := I
  obtain ⟨f1, f2, f3, f4, f5, f6, f7, f8⟩ := rl_facts hB hk hS hH hP
  obtain ⟨b, hb⟩ := qb_bz v4
  rw [hb]
  rcases wx_open v1 with ⟨s, hs, rfl, ho⟩ | ⟨nx, ny⟩
  · rcases wx_key v2 with ⟨key, hy, rfl⟩ | ⟨mx, my⟩
    · obtain ⟨eyc, eys, hsc, erx, hst, hsv, hmono, hwk⟩ := (hS s hs).2.2 ho
      have hlw := (hH.2.2.1 key hy).2.2
      have hcf := (hH.2.2.2 s hs ho key hy).2
      have hlk : (∃ o, o < 4 ∧ o ≠ s ∧ qw_W wk (12 * o) key (wc o) = true) ↔ ∃ o, o < 4 ∧ o ≠ s ∧ op o = true ∧ qw_W wk (12 * o) key (yc o) = true := by
        constructor
        · rintro ⟨o, h1, h2, h3⟩
          cases e : op o
          · rw [((hS o h1).2.1 e).1] at h3
            exact absurd h3 (by simp [qw_W])
          · exact ⟨o, h1, h2, e, by rw [((hS o h1).2.2 e).1]; exact h3⟩
        · rintro ⟨o, h1, h2, e, h3⟩
          exact ⟨o, h1, h2, by rw [← ((hS o h1).2.2 e).1]; exact h3⟩
      have hY : ∀ (post : Int32 → SY → Prop), _ → _ → _ → wpY_write post (g, nI C, nI D, nI H, qn_F hc, qn_F hq, hv, qb_F ht, qn_F cs, cr, cw, qb_F kn, qb_F op, qb_F se, qn_F st, ry, qn_F yc, qn_F ys, qn_F wk, yv, qb_F yt, qn_F sv) (nI s) (nI key) v3 (qb_i b) := fun post a1 a2 a0 => my_write hs ho (fun o h4 e => by rw [((hS o h4).2.2 e).1]; exact f5 o h4) (fun o h4 e => by rw [((hS o h4).2.2 e).1]; exact f6 o h4) hy (by omega) (f7 s hs ho) f4 a1 a2 a0
      by_cases hL : ∃ o, o < 4 ∧ o ≠ s ∧ qw_W wk (12 * o) key (wc o) = true
      · refine mx_write hs ho f5 f6 hy (by omega) (f7 s hs ho) true ⟨fun _ => hL, fun _ => rfl⟩ (fun _ => ?_) (fun z => absurd z (by decide)) (fun z => absurd z (by decide)) (fun z => absurd z (by decide))
        exact hY _ (fun _ => ⟨rfl, i_up I0⟩) (fun z => absurd (hlk.mp hL) z) (fun z => absurd (hlk.mp hL) z)
      · have hL' := fun z => hL (hlk.mpr z)
        refine mx_write hs ho f5 f6 hy (by omega) (f7 s hs ho) false ⟨fun z => absurd z (by decide), fun z => absurd z hL⟩ (fun z => absurd z (by decide)) (fun _ hc1 => ?_) (fun _ hc1 hfull => ?_) (fun _ hc1 hroom => ?_)
        · exact hY _ (fun z => absurd z hL') (fun _ _ => ⟨rfl, i_mk (rl_Bend hs hB) (rl_Send hS) (rl_Hend hH) (rl_Pend hP)⟩) (fun _ z => absurd (hcf.mp hc1) z)
        · refine hY _ (fun z => absurd z hL') (fun _ z => absurd (hcf.mpr z) hc1) (fun _ _ => ⟨fun _ => ⟨rfl, i_up I0⟩, fun z => ?_⟩)
          have := f5 s hs
          omega
        · refine hY _ (fun z => absurd z hL') (fun _ z => absurd (hcf.mpr z) hc1) (fun _ _ => ⟨fun z => by omega, fun z => ⟨rfl, ?_⟩⟩)
          rw [eyc]
          refine i_mk ?_ (rl_Swrite hs hS ho hy hroom) hH hP
          obtain ⟨b1, b2, b3⟩ := hB
          have := qs_u (wc := wc) (v := wc s + 1) hs
          exact ⟨b1, by omega, by omega⟩
    · unfold wpX_write
      dsimp only
      refine wx_isOpenT hs ho (br_f (by decide) (mx _ (br_t rfl ?_)))
      unfold wpY_write
      dsimp only
      exact wy_isOpenT hs ho (br_f (by decide) (my _ (br_t rfl ⟨rfl, i_up I0⟩)))
  · unfold wpX_write
    dsimp only
    refine nx _ (br_t rfl ?_)
    unfold wpY_write
    dsimp only
    exact ny _ (br_t rfl ⟨rfl, i_up I0⟩)
theorem i_vc_save {k : Nat} {u : SX} {v : SY} (I : i_Rel k u v) (hk : k + 5 ≤ 2561) (v1 : Int32) : wpX_save (fun r u' => wpY_save (fun r' v' => r' = r ∧ i_Rel (k + 5) u' v') v v1) u v1 := by
  have I0 := I
  obtain ⟨g, C, D, H, ro, dr, sn, rx, wr, pr, pw, cr, cw, ry, lw, st, wc, wk, sc, sv, pn, hc, hq, cs, yc, ys, op, se, pO, pI, ht, kn, yt, hv, yv, rfl, rfl, hB, hS, hH, hP⟩ := I
  obtain ⟨f1, f2, f3, f4, f5, f6, f7, f8⟩ := rl_facts hB hk hS hH hP
  rcases wx_open v1 with ⟨s, hs, rfl, ho⟩ | ⟨nx, ny⟩
  · obtain ⟨eyc, eys, hsc, erx, hst, hsv, hmono, hwk⟩ := (hS s hs).2.2 ho
    refine mx_save hs ho hsc ⟨fun e => ?_, fun e => ?_⟩
    · refine my_save hs ho (by rw [eys]; exact hsc) ⟨fun e' => ⟨rfl, ?_⟩, fun e' => absurd (by rw [eys]; exact e) e'⟩
      rw [eyc, eys]
      exact i_mk (rl_Bup hB) (rl_Ssave hs hS ho e) hH hP
    · exact my_save hs ho (by rw [eys]; exact hsc) ⟨fun e' => absurd (by rw [← eys]; exact e') e, fun e' => ⟨rfl, i_up I0⟩⟩
  · unfold wpX_save
    dsimp only
    refine nx _ (br_t rfl ?_)
    unfold wpY_save
    dsimp only
    exact ny _ (br_t rfl ⟨rfl, i_up I0⟩)
theorem i_vc_undo {k : Nat} {u : SX} {v : SY} (I : i_Rel k u v) (hk : k + 5 ≤ 2561) (v1 : Int32) : wpX_undo (fun r u' => wpY_undo (fun r' v' => r' = r ∧ i_Rel (k + 5) u' v') v v1) u v1 := by
  have I0 := I
  obtain ⟨g, C, D, H, ro, dr, sn, rx, wr, pr, pw, cr, cw, ry, lw, st, wc, wk, sc, sv, pn, hc, hq, cs, yc, ys, op, se, pO, pI, ht, kn, yt, hv, yv, rfl, rfl, hB, hS, hH, hP⟩ := I
  obtain ⟨f1, f2, f3, f4, f5, f6, f7, f8⟩ := rl_facts hB hk hS hH hP
  rcases wx_open v1 with ⟨s, hs, rfl, ho⟩ | ⟨nx, ny⟩
  · obtain ⟨eyc, eys, hsc, erx, hst, hsv, hmono, hwk⟩ := (hS s hs).2.2 ho
    refine mx_undo hs ho hsc (fun e => ?_) (fun q e => ?_)
    · exact my_undo hs ho (by rw [eys]; exact hsc) (fun _ => ⟨rfl, i_up I0⟩) (fun q e' => by omega)
    · refine my_undo hs ho (by rw [eys]; exact hsc) (fun e' => by omega) (fun q' e' => ⟨rfl, ?_⟩)
      have hq' : q' = q := by omega
      subst hq'
      refine i_mk ?_ (rl_Sundo hS ho e) hH hP
      obtain ⟨b1, b2, b3⟩ := hB
      have h1 := qs_u (wc := wc) (v := sv (3 * s + q')) hs
      have h2 := hsv q' (by omega)
      exact ⟨b1, by omega, by omega⟩
  · unfold wpX_undo
    dsimp only
    refine nx _ (br_t rfl ?_)
    unfold wpY_undo
    dsimp only
    exact ny _ (br_t rfl ⟨rfl, i_up I0⟩)
theorem i_vc_rollback {k : Nat} {u : SX} {v : SY} (I : i_Rel k u v) (hk : k + 5 ≤ 2561) (v1 : Int32) : wpX_rollback (fun r u' => wpY_rollback (fun r' v' => r' = r ∧ i_Rel (k + 5) u' v') v v1) u v1 := by
  have I0 := I
  obtain ⟨g, C, D, H, ro, dr, sn, rx, wr, pr, pw, cr, cw, ry, lw, st, wc, wk, sc, sv, pn, hc, hq, cs, yc, ys, op, se, pO, pI, ht, kn, yt, hv, yv, rfl, rfl, hB, hS, hH, hP⟩ := I
  obtain ⟨f1, f2, f3, f4, f5, f6, f7, f8⟩ := rl_facts hB hk hS hH hP
  rcases wx_open v1 with ⟨s, hs, rfl, ho⟩ | ⟨nx, ny⟩
  · unfold wpX_rollback
    dsimp only
    refine wx_isOpenT hs ho (br_f (by decide) (wx_end hs ?_))
    dsimp only
    unfold wpY_rollback
    dsimp only
    refine wy_isOpenT hs ho (br_f (by decide) ?_)
    simp only [nI_clamp (show s < 2 ^ 31 by omega), qb_nar0, qb_U]
    exact ⟨vp_in_nI hs (by omega), nm_e ⟨by trivial, i_mk (rl_Bend hs hB) (rl_Send hS) (rl_Hend hH) (rl_Pend hP)⟩⟩
  · unfold wpX_rollback
    dsimp only
    refine nx _ (br_t rfl ?_)
    unfold wpY_rollback
    dsimp only
    exact ny _ (br_t rfl ⟨rfl, i_up I0⟩)
theorem i_vc_sync {k : Nat} {u : SX} {v : SY} (I : i_Rel k u v) (hk : k + 5 ≤ 2561) : wpX_sync (fun r u' => wpY_sync (fun r' v' => r' = r ∧ i_Rel (k + 5) u' v') v) u := by
  have I0 := I
  obtain ⟨g, C, D, H, ro, dr, sn, rx, wr, pr, pw, cr, cw, ry, lw, st, wc, wk, sc, sv, pn, hc, hq, cs, yc, ys, op, se, pO, pI, ht, kn, yt, hv, yv, rfl, rfl, hB, hS, hH, hP⟩ := I
  obtain ⟨f1, f2, f3, f4, f5, f6, f7, f8⟩ := rl_facts hB hk hS hH hP
  unfold wpX_sync
  dsimp only
  refine wx_md ?_
  dsimp only
  unfold wpY_sync
  dsimp only
  refine ⟨rfl, i_mk ?_ hS (rl_Hdur hH) hP⟩
  exact ⟨Nat.le_refl _, by have := hB.2.1; omega, by have := hB.2.2; omega⟩
theorem i_vc_crash {k : Nat} {u : SX} {v : SY} (I : i_Rel k u v) (hk : k + 5 ≤ 2561) : wpX_crash (fun r u' => wpY_crash (fun r' v' => r' = r ∧ i_Rel (k + 5) u' v') v) u := by
  have I0 := I
  obtain ⟨g, C, D, H, ro, dr, sn, rx, wr, pr, pw, cr, cw, ry, lw, st, wc, wk, sc, sv, pn, hc, hq, cs, yc, ys, op, se, pO, pI, ht, kn, yt, hv, yv, rfl, rfl, hB, hS, hH, hP⟩ := I
  obtain ⟨f1, f2, f3, f4, f5, f6, f7, f8⟩ := rl_facts hB hk hS hH hP
  refine wx_crash (wy_crash f1 (by omega) (by omega) (fun i hi => (f4 i hi).1) ⟨rfl, i_mk ?_ (rl_Scrash hS) (rl_Hcrash hH) (rl_Pcrash hP)⟩)
  obtain ⟨b1, b2, b3⟩ := hB
  have h1 := qc_le (fun i => decide (hc i ≤ D)) H
  have h2 : qs_S (qk_c wc (fun _ => 0) 0 4) = 0 := by
    rw [qs_S, qk_in0 (by omega), qk_in0 (by omega), qk_in0 (by omega), qk_in0 (by omega)]
  exact ⟨Nat.le_refl _, by omega, by omega⟩
theorem i_vc_row {k : Nat} {u : SX} {v : SY} (I : i_Rel k u v) (hk : k + 5 ≤ 2561) (v1 : Int32) : wpX_row (fun r => wpY_row (fun r' => r' = r ∧ i_Rel (k + 5) u v) v v1) u v1 := by
  have I0 := I
  obtain ⟨g, C, D, H, ro, dr, sn, rx, wr, pr, pw, cr, cw, ry, lw, st, wc, wk, sc, sv, pn, hc, hq, cs, yc, ys, op, se, pO, pI, ht, kn, yt, hv, yv, rfl, rfl, hB, hS, hH, hP⟩ := I
  obtain ⟨f1, f2, f3, f4, f5, f6, f7, f8⟩ := rl_facts hB hk hS hH hP
  rcases wx_key v1 with ⟨key, hy, rfl⟩ | ⟨mx, my⟩
  · unfold wpX_row
    dsimp only
    refine wx_isKeyT hy (br_f (by decide) ⟨vp_in_nI hy (by omega), ?_⟩)
    unfold wpY_row
    dsimp only
    refine wy_isKeyT hy (br_f (by decide) ?_)
    refine wy_after (by omega) (by omega) f4 hy ⟨?_, i_up I0⟩
    rw [nI_clamp (show key < 2 ^ 31 by omega)]
    exact (hH.2.2.1 key hy).1.symm
  · unfold wpX_row
    dsimp only
    refine mx _ (br_t rfl ?_)
    unfold wpY_row
    dsimp only
    exact my _ (br_t rfl ⟨rfl, i_up I0⟩)
theorem i_vc_seen {k : Nat} {u : SX} {v : SY} (I : i_Rel k u v) (hk : k + 5 ≤ 2561) (v1 : Int32) (v2 : Int32) : wpX_seen (fun r => wpY_seen (fun r' => r' = r ∧ i_Rel (k + 5) u v) v v1 v2) u v1 v2 := by
  have I0 := I
  obtain ⟨g, C, D, H, ro, dr, sn, rx, wr, pr, pw, cr, cw, ry, lw, st, wc, wk, sc, sv, pn, hc, hq, cs, yc, ys, op, se, pO, pI, ht, kn, yt, hv, yv, rfl, rfl, hB, hS, hH, hP⟩ := I
  obtain ⟨f1, f2, f3, f4, f5, f6, f7, f8⟩ := rl_facts hB hk hS hH hP
  rcases wx_open v1 with ⟨s, hs, rfl, ho⟩ | ⟨nx, ny⟩
  · rcases wx_key v2 with ⟨key, hy, rfl⟩ | ⟨mx, my⟩
    · obtain ⟨eyc, eys, hsc, erx, hst, hsv, hmono, hwk⟩ := (hS s hs).2.2 ho
      have hF := rl_F hs ho hS hH key hy
      refine mx_seen hs ho (f5 s hs) (f6 s hs) hy ⟨fun e => ?_, fun e => ?_⟩
      · refine my_seen hs ho (by rw [eyc]; exact f5 s hs) (by rw [eyc]; exact f6 s hs) hy (by omega) (f7 s hs ho) f4 ⟨fun _ => ⟨rfl, i_up I0⟩, fun e' => absurd (hF.symm.trans e) e'⟩
      · refine my_seen hs ho (by rw [eyc]; exact f5 s hs) (by rw [eyc]; exact f6 s hs) hy (by omega) (f7 s hs ho) f4 ⟨fun e' => absurd (hF.trans e') e, fun _ => ⟨rfl, i_up I0⟩⟩
    · unfold wpX_seen
      dsimp only
      refine wx_isOpenT hs ho (br_f (by decide) (mx _ (br_t rfl ?_)))
      unfold wpY_seen
      dsimp only
      exact wy_isOpenT hs ho (br_f (by decide) (my _ (br_t rfl ⟨rfl, i_up I0⟩)))
  · unfold wpX_seen
    dsimp only
    refine nx _ (br_t rfl ?_)
    unfold wpY_seen
    dsimp only
    exact ny _ (br_t rfl ⟨rfl, i_up I0⟩)
theorem i_vc_savepoints {k : Nat} {u : SX} {v : SY} (I : i_Rel k u v) (hk : k + 5 ≤ 2561) (v1 : Int32) : wpX_savepoints (fun r => wpY_savepoints (fun r' => r' = r ∧ i_Rel (k + 5) u v) v v1) u v1 := by
  have I0 := I
  obtain ⟨g, C, D, H, ro, dr, sn, rx, wr, pr, pw, cr, cw, ry, lw, st, wc, wk, sc, sv, pn, hc, hq, cs, yc, ys, op, se, pO, pI, ht, kn, yt, hv, yv, rfl, rfl, hB, hS, hH, hP⟩ := I
  obtain ⟨f1, f2, f3, f4, f5, f6, f7, f8⟩ := rl_facts hB hk hS hH hP
  rcases wx_open v1 with ⟨s, hs, rfl, ho⟩ | ⟨nx, ny⟩
  · obtain ⟨eyc, eys, hsc, erx, hst, hsv, hmono, hwk⟩ := (hS s hs).2.2 ho
    unfold wpX_savepoints
    dsimp only
    refine wx_isOpenT hs ho (br_f (by decide) ⟨vp_in_nI hs (by omega), ?_⟩)
    unfold wpY_savepoints
    dsimp only
    refine wy_isOpenT hs ho (br_f (by decide) ⟨vp_in_nI hs (by omega), ?_, i_up I0⟩)
    rw [nI_clamp (show s < 2 ^ 31 by omega), qn_at, qn_at, eys]
  · unfold wpX_savepoints
    dsimp only
    refine nx _ (br_t rfl ?_)
    unfold wpY_savepoints
    dsimp only
    exact ny _ (br_t rfl ⟨rfl, i_up I0⟩)
theorem i_vc_count {k : Nat} {u : SX} {v : SY} (I : i_Rel k u v) (hk : k + 5 ≤ 2561) (v1 : Int32) : wpX_count (fun r => wpY_count (fun r' => r' = r ∧ i_Rel (k + 5) u v) v v1) u v1 := by
  have I0 := I
  obtain ⟨g, C, D, H, ro, dr, sn, rx, wr, pr, pw, cr, cw, ry, lw, st, wc, wk, sc, sv, pn, hc, hq, cs, yc, ys, op, se, pO, pI, ht, kn, yt, hv, yv, rfl, rfl, hB, hS, hH, hP⟩ := I
  obtain ⟨f1, f2, f3, f4, f5, f6, f7, f8⟩ := rl_facts hB hk hS hH hP
  have hk0 : kn 0 = false := by
    cases e : kn 0
    · rfl
    · have := (hP.1 0 e).1
      omega
  unfold wpX_count
  dsimp only
  by_cases e0 : v1 = 0
  · subst e0
    refine br_t rfl ?_
    unfold wpY_count
    exact br_t rfl ⟨rfl, i_up I0⟩
  refine br_f e0 ?_
  by_cases e1 : v1 = 1
  · refine br_t e1 ?_
    unfold wpY_count
    exact br_f e0 (br_t e1 ⟨rfl, i_up I0⟩)
  refine br_f e1 ?_
  by_cases e2 : v1 = 2
  · refine br_t e2 (wx_tb f7 f8 ?_)
    unfold wpY_count
    dsimp only
    refine br_f e0 (br_f e1 (br_t e2 (wy_tr f1 f7 hk0 ⟨?_, i_up I0⟩)))
    rw [rl_trk hP]
  refine br_f e2 ?_
  by_cases e3 : v1 < 3
  · refine br_t e3 ?_
    unfold wpY_count
    exact br_f e0 (br_f e1 (br_f e2 (br_t e3 ⟨rfl, i_up I0⟩)))
  refine br_f e3 ?_
  have h0 : ¬ v1 < 0 := fun z => e3 (Int32.lt_trans z (by decide))
  obtain ⟨n, hn, rfl⟩ := nI_of h0
  rw [show (3 : Int32) = nI 3 from rfl, nI_ltI hn (by omega)] at e3
  by_cases e7 : 7 ≤ n
  · refine br_t (nI_le (a := 7) e7 hn) ?_
    unfold wpY_count
    exact br_f e0 (br_f e1 (br_f e2 (br_f (nI_nlt (b := 3) (by omega) hn) (br_f (nI_ge (b := n) (a := 6) (by omega) hn) ⟨rfl, i_up I0⟩))))
  · obtain ⟨s, rfl⟩ : ∃ s, n = s + 3 := ⟨n - 3, by omega⟩
    have hs : s < 4 := by omega
    have es : nI (s + 3) - 3 = nI s := by
      rw [show (3 : Int32) = nI 3 from rfl, pk_sub (by omega), Nat.add_sub_cancel]
    refine br_f (nI_ge (b := 7) (by omega) (by omega)) ?_
    rw [es]
    refine wx_wk hs (f5 s hs) (f6 s hs) ?_
    unfold wpY_count
    dsimp only
    rw [es]
    refine br_f e0 (br_f e1 (br_f e2 (br_f (nI_nlt (b := 3) (by omega) (by omega)) (br_t (nI_le (b := 6) (by omega) (by omega)) ⟨vp_in_nI hs (by omega), ?_⟩))))
    rw [nI_clamp (show s < 2 ^ 31 by omega), qb_at]
    refine qb_br (fun e => ⟨?_, i_up I0⟩) (fun e => ?_)
    · rw [((hS s hs).2.1 e).1, qc_0 (Q := fun key => qw_W wk (12 * s) key 0) 64 (fun j _ => rfl)]
      rfl
    · obtain ⟨eyc, eys, hsc, erx, hst, hsv, hmono, hwk⟩ := (hS s hs).2.2 e
      refine wy_writeSet hs (by rw [eyc]; exact f5 s hs) ⟨_, wy_ct64 _ _ 0 rfl ⟨?_, i_up I0⟩⟩
      rw [Nat.zero_add, qp_cnt, eyc]
      refine congrArg nI (qc_cg 64 (fun i hi => ?_))
      exact qw_bit hi (f6 s hs)
