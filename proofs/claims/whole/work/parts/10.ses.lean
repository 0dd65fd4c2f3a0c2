section
variable {k C D H : Nat} {ro dr sn rx wr pr pw cr cw ry : Nat → Int64} {lw st wc wk sc sv pn hc hk cs yc ys : Nat → Nat} {op se pO pI ht kn yt : Nat → Bool} {hv yv : Nat → Int32}
theorem rl_Srd {s : Nat} {r : Int64} (hS : ∀ o, o < 4 → rl_s C op st wc yc sc ys sv wk rx ry wr yt yv o) (ho : op s = true) : ∀ o, o < 4 → rl_s C op st wc yc sc ys sv wk (qu_p rx s r) (qu_p ry s r) wr yt yv o := by
  intro o h4
  obtain ⟨a, b, c⟩ := hS o h4
  by_cases e : o = s
  · subst e
    obtain ⟨c1, c2, c3, c4, c5⟩ := c ho
    refine ⟨a, fun z => ?_, fun _ => ⟨c1, c2, c3, ?_, c5⟩⟩
    · rw [ho] at z
      exact absurd z (by decide)
    · rw [qu_s, qu_s]
  · simp only [rl_s, qu_n e]
    exact ⟨a, b, c⟩
theorem rl_Send {s : Nat} (hS : ∀ o, o < 4 → rl_s C op st wc yc sc ys sv wk rx ry wr yt yv o) : ∀ o, o < 4 → rl_s C (qu_p op s false) st (qu_p wc s 0) yc (qu_p sc s 0) ys sv wk (qu_p rx s 0) ry wr yt yv o := by
  intro o h4
  obtain ⟨a, b, c⟩ := hS o h4
  by_cases e : o = s
  · subst e
    simp only [rl_s, qu_s]
    exact ⟨by omega, fun _ => ⟨by trivial, by trivial, by trivial⟩, fun z => absurd z (by decide)⟩
  · simp only [rl_s, qu_n e]
    exact ⟨a, b, c⟩
theorem rl_SC {C' : Nat} (hC : C ≤ C') (hS : ∀ o, o < 4 → rl_s C op st wc yc sc ys sv wk rx ry wr yt yv o) : ∀ o, o < 4 → rl_s C' op st wc yc sc ys sv wk rx ry wr yt yv o := by
  intro o h4
  obtain ⟨a, b, c⟩ := hS o h4
  refine ⟨a, b, fun z => ?_⟩
  obtain ⟨c1, c2, c3, c4, c5, c6⟩ := c z
  exact ⟨c1, c2, c3, c4, Nat.le_trans c5 hC, c6⟩
theorem rl_Sbegin {s : Nat} (hS : ∀ o, o < 4 → rl_s C op st wc yc sc ys sv wk rx ry wr yt yv o) (ho : op s = false) : ∀ o, o < 4 → rl_s C (qu_p op s true) (qu_p st s C) wc (qu_p yc s 0) sc (qu_p ys s 0) sv wk rx (qu_p ry s 0) wr yt yv o := by
  intro o h4
  obtain ⟨a, b, c⟩ := hS o h4
  by_cases e : o = s
  · subst e
    obtain ⟨b1, b2, b3⟩ := b ho
    simp only [rl_s, qu_s, b1, b2, b3]
    exact ⟨by omega, fun z => absurd z (by decide), fun _ => ⟨by trivial, by trivial, by omega, by trivial, Nat.le_refl _, fun i hi => by omega, fun i j _ hj => by omega, fun p hp => by omega⟩⟩
  · simp only [rl_s, qu_n e]
    exact ⟨a, b, c⟩
theorem rl_Scrash (hS : ∀ o, o < 4 → rl_s C op st wc yc sc ys sv wk rx ry wr yt yv o) : ∀ o, o < 4 → rl_s D (qk_c op (fun _ => false) 0 4) st (qk_c wc (fun _ => 0) 0 4) yc (qk_c sc (fun _ => 0) 0 4) ys sv wk (qk_c rx (fun _ => 0) 0 4) ry wr yt yv o := by
  intro o h4
  simp only [rl_s, qk_in0 h4]
  exact ⟨by omega, fun _ => ⟨trivial, trivial, trivial⟩, fun z => absurd z (by decide)⟩
theorem rl_Swrite {s key : Nat} {x : Int32} {b : Bool} (hs : s < 4) (hS : ∀ o, o < 4 → rl_s C op st wc yc sc ys sv wk rx ry wr yt yv o) (ho : op s = true) (hy : key < 64) (hlt : wc s < 12) : ∀ o, o < 4 → rl_s C op st (qu_p wc s (wc s + 1)) (qu_p yc s (wc s + 1)) sc ys sv (qu_p wk (12 * s + wc s) key) rx ry (qu_p wr (12 * s + wc s) (if b = true then x.toInt64 else 1000000000000)) (qu_p yt (12 * s + wc s) b) (qu_p yv (12 * s + wc s) x) o := by
  intro o h4
  obtain ⟨a, b', c⟩ := hS o h4
  have blk : ∀ q, q ≠ 12 * s + wc s → qu_p wk (12 * s + wc s) key q = wk q ∧ qu_p wr (12 * s + wc s) (if b = true then x.toInt64 else 1000000000000) q = wr q ∧ qv_v (qu_p yt (12 * s + wc s) b) (qu_p yv (12 * s + wc s) x) q = qv_v yt yv q := fun q hq => by
    rw [qv_v, qv_v, qu_n hq, qu_n hq, qu_n hq, qu_n hq]
    exact ⟨rfl, rfl, rfl⟩
  by_cases e : o = s
  · subst e
    obtain ⟨c1, c2, c3, c4, c5, c6, c7, c8⟩ := c ho
    simp only [rl_s, qu_s]
    refine ⟨by omega, fun z => ?_, fun _ => ⟨trivial, c2, c3, c4, c5, fun i hi => ?_, c7, fun p hp => ?_⟩⟩
    · rw [ho] at z
      exact absurd z (by decide)
    · have := c6 i hi
      omega
    · by_cases ep : p = wc o
      · subst ep
        rw [qv_v, qu_s, qu_s, qu_s, qu_s]
        exact ⟨hy, rfl⟩
      · obtain ⟨g1, g2, g3⟩ := blk (12 * o + p) (by omega)
        rw [g1, g2, g3]
        exact c8 p (by omega)
  · simp only [rl_s, qu_n e]
    refine ⟨a, b', fun z => ?_⟩
    obtain ⟨c1, c2, c3, c4, c5, c6, c7, c8⟩ := c z
    refine ⟨c1, c2, c3, c4, c5, c6, c7, fun p hp => ?_⟩
    obtain ⟨g1, g2, g3⟩ := blk (12 * o + p) (by omega)
    rw [g1, g2, g3]
    exact c8 p hp
theorem rl_Ssave {s : Nat} (hs : s < 4) (hS : ∀ o, o < 4 → rl_s C op st wc yc sc ys sv wk rx ry wr yt yv o) (ho : op s = true) (hlt : sc s < 3) : ∀ o, o < 4 → rl_s C op st wc yc (qu_p sc s (sc s + 1)) (qu_p ys s (sc s + 1)) (qu_p sv (3 * s + sc s) (wc s)) wk rx ry wr yt yv o := by
  intro o h4
  obtain ⟨a, b', c⟩ := hS o h4
  by_cases e : o = s
  · subst e
    obtain ⟨c1, c2, c3, c4, c5, c6, c7, c8⟩ := c ho
    simp only [rl_s, qu_s]
    refine ⟨a, fun z => ?_, fun _ => ⟨c1, trivial, by omega, c4, c5, fun i hi => ?_, fun i j hij hj => ?_, c8⟩⟩
    · rw [ho] at z
      exact absurd z (by decide)
    · by_cases ei : i = sc o
      · subst ei
        rw [qu_s]
        exact Nat.le_refl _
      · rw [qu_n (by omega)]
        exact c6 i (by omega)
    · by_cases ej : j = sc o
      · subst ej
        rw [qu_s]
        by_cases ei : i = sc o
        · subst ei
          rw [qu_s]
          exact Nat.le_refl _
        · rw [qu_n (by omega)]
          exact c6 i (by omega)
      · rw [qu_n (by omega), qu_n (by omega)]
        exact c7 i j hij (by omega)
  · simp only [rl_s, qu_n e]
    refine ⟨a, b', fun z => ?_⟩
    obtain ⟨c1, c2, c3, c4, c5, c6, c7, c8⟩ := c z
    refine ⟨c1, c2, c3, c4, c5, fun i hi => ?_, fun i j hij hj => ?_, c8⟩
    · rw [qu_n (by omega)]
      exact c6 i hi
    · rw [qu_n (by omega), qu_n (by omega)]
      exact c7 i j hij hj
theorem rl_Sundo {s q : Nat} (hS : ∀ o, o < 4 → rl_s C op st wc yc sc ys sv wk rx ry wr yt yv o) (ho : op s = true) (hq : sc s = q + 1) : ∀ o, o < 4 → rl_s C op st (qu_p wc s (sv (3 * s + q))) (qu_p yc s (sv (3 * s + q))) (qu_p sc s q) (qu_p ys s q) sv wk rx ry wr yt yv o := by
  intro o h4
  obtain ⟨a, b', c⟩ := hS o h4
  by_cases e : o = s
  · subst e
    obtain ⟨c1, c2, c3, c4, c5, c6, c7, c8⟩ := c ho
    have hle := c6 q (by omega)
    simp only [rl_s, qu_s]
    refine ⟨by omega, fun z => ?_, fun _ => ⟨trivial, trivial, by omega, c4, c5, fun i hi => c7 i q (by omega) (by omega), fun i j hij hj => c7 i j hij (by omega), fun p hp => c8 p (by omega)⟩⟩
    rw [ho] at z
    exact absurd z (by decide)
  · simp only [rl_s, qu_n e]
    exact ⟨a, b', c⟩
theorem rl_facts (hB : rl_B k C D H wc) (hk5 : k + 5 ≤ 2561) (hS : ∀ o, o < 4 → rl_s C op st wc yc sc ys sv wk rx ry wr yt yv o) (hH : rl_H C D H hc hk ht hv ro dr lw op st sn) (hP : rl_P C op se st pn pr pw pO pI cs cr cw kn) : C < 512 ∧ H + qs_S wc < 512 ∧ D ≤ C ∧ (∀ i, i < H → hc i < 2 ^ 31 ∧ hk i < 2 ^ 31) ∧ (∀ o, o < 4 → wc o ≤ 12) ∧ (∀ o, o < 4 → ∀ p, p < wc o → wk (12 * o + p) < 64) ∧ (∀ o, o < 4 → op o = true → st o < 2 ^ 31) ∧ (∀ i, i < 8 → pn i < 2 ^ 31) := by
  obtain ⟨h1, h2, h3⟩ := hB
  have hC : C < 512 := by omega
  refine ⟨hC, by omega, h1, fun i hi => ?_, fun o h4 => (hS o h4).1, fun o h4 p hp => ?_, fun o h4 e => ?_, fun i hi => ?_⟩
  · have := hH.1 i hi
    omega
  · cases e : op o
    · have := ((hS o h4).2.1 e).1
      omega
    · exact (((hS o h4).2.2 e).2.2.2.2.2.2.2 p hp).1
  · have := ((hS o h4).2.2 e).2.2.2.2.1
    omega
  · rcases Nat.eq_zero_or_pos (pn i) with e | e
    · omega
    · have := (hP.1 _ (hP.2.1 i hi (by omega)).1).2.1
      omega
end
section
variable {g : Int32} {k C D H : Nat} {ro dr sn rx wr pr pw cr cw ry : Nat → Int64} {lw st wc wk sc sv pn hc hk cs yc ys : Nat → Nat} {op se pO pI ht kn yt : Nat → Bool} {hv yv : Nat → Int32}
def i_Rel (k : Nat) (u : SX) (v : SY) : Prop := ∃ (g : Int32) (C D H : Nat) (ro dr sn rx wr pr pw cr cw ry : Nat → Int64) (lw st wc wk sc sv pn hc hk cs yc ys : Nat → Nat) (op se pO pI ht kn yt : Nat → Bool) (hv yv : Nat → Int32), u = (g, nI C, nI D, ro, dr, qn_F lw, qb_F op, qb_F se, qn_F st, sn, rx, qn_F wc, qn_F wk, wr, qn_F sc, qn_F sv, qn_F pn, pr, pw, qb_F pO, qb_F pI) ∧ v = (g, nI C, nI D, nI H, qn_F hc, qn_F hk, hv, qb_F ht, qn_F cs, cr, cw, qb_F kn, qb_F op, qb_F se, qn_F st, ry, qn_F yc, qn_F ys, qn_F wk, yv, qb_F yt, qn_F sv) ∧ rl_B k C D H wc ∧ (∀ s, s < 4 → rl_s C op st wc yc sc ys sv wk rx ry wr yt yv s) ∧ rl_H C D H hc hk ht hv ro dr lw op st sn ∧ rl_P C op se st pn pr pw pO pI cs cr cw kn
theorem i_mk (hB : rl_B k C D H wc) (hS : ∀ s, s < 4 → rl_s C op st wc yc sc ys sv wk rx ry wr yt yv s) (hH : rl_H C D H hc hk ht hv ro dr lw op st sn) (hP : rl_P C op se st pn pr pw pO pI cs cr cw kn) : i_Rel k (g, nI C, nI D, ro, dr, qn_F lw, qb_F op, qb_F se, qn_F st, sn, rx, qn_F wc, qn_F wk, wr, qn_F sc, qn_F sv, qn_F pn, pr, pw, qb_F pO, qb_F pI) (g, nI C, nI D, nI H, qn_F hc, qn_F hk, hv, qb_F ht, qn_F cs, cr, cw, qb_F kn, qb_F op, qb_F se, qn_F st, ry, qn_F yc, qn_F ys, qn_F wk, yv, qb_F yt, qn_F sv) :=
  ⟨g, C, D, H, ro, dr, sn, rx, wr, pr, pw, cr, cw, ry, lw, st, wc, wk, sc, sv, pn, hc, hk, cs, yc, ys, op, se, pO, pI, ht, kn, yt, hv, yv, rfl, rfl, hB, hS, hH, hP⟩
theorem i_up {k : Nat} {u : SX} {v : SY} (h : i_Rel k u v) : i_Rel (k + 5) u v := by
  obtain ⟨g, C, D, H, ro, dr, sn, rx, wr, pr, pw, cr, cw, ry, lw, st, wc, wk, sc, sv, pn, hc, hk, cs, yc, ys, op, se, pO, pI, ht, kn, yt, hv, yv, rfl, rfl, ⟨b1, b2, b3⟩, hS, hH, hP⟩ := h
  exact i_mk ⟨b1, by omega, by omega⟩ hS hH hP
theorem rl_zero (z : Int32) : i_Rel 1 (z, 0, 0, qk_c (fun _ => 0) (fun _ => 1000000000000) 0 64, qk_c (fun _ => 0) (fun _ => 1000000000000) 0 64, (fun _ => 0), (fun _ => 0), (fun _ => 0), (fun _ => 0), (fun _ => 0), (fun _ => 0), (fun _ => 0), (fun _ => 0), (fun _ => 0), (fun _ => 0), (fun _ => 0), (fun _ => 0), (fun _ => 0), (fun _ => 0), (fun _ => 0), (fun _ => 0)) (z, 0, 0, 0, (fun _ => 0), (fun _ => 0), (fun _ => 0), (fun _ => 0), (fun _ => 0), (fun _ => 0), (fun _ => 0), (fun _ => 0), (fun _ => 0), (fun _ => 0), (fun _ => 0), (fun _ => 0), (fun _ => 0), (fun _ => 0), (fun _ => 0), (fun _ => 0), (fun _ => 0), (fun _ => 0)) := by
  refine i_mk (C := 0) (D := 0) (H := 0) (ro := qk_c (fun _ => 0) (fun _ => 1000000000000) 0 64) (dr := qk_c (fun _ => 0) (fun _ => 1000000000000) 0 64) (lw := fun _ => 0) (op := fun _ => false) (se := fun _ => false) (st := fun _ => 0) (wc := fun _ => 0) (wk := fun _ => 0) (sc := fun _ => 0) (sv := fun _ => 0) (pn := fun _ => 0) (pO := fun _ => false) (pI := fun _ => false) (hc := fun _ => 0) (hk := fun _ => 0) (ht := fun _ => false) (cs := fun _ => 0) (kn := fun _ => false) (yc := fun _ => 0) (ys := fun _ => 0) (yt := fun _ => false) ?_ ?_ ?_ ?_
  · exact ⟨by omega, by omega, by simp [qs_S]⟩
  · exact fun s _ => ⟨Nat.zero_le 12, fun _ => ⟨rfl, rfl, rfl⟩, fun z => absurd (show false = true from z) (by decide)⟩
  · exact ⟨fun i hi => by omega, fun i j _ hj => by omega, fun key hy => ⟨qk_in0 hy, qk_in0 hy, Nat.le_refl _⟩, fun s _ z => absurd (show false = true from z) (by decide)⟩
  · exact ⟨fun j z => absurd (show false = true from z) (by decide), fun i _ z => absurd rfl z, fun i i' _ _ z => absurd rfl z, fun j s z => absurd (show false = true from z) (by decide)⟩
theorem rl_in (z : Int32) {post : SX → Prop} (h : post (z, 0, 0, qk_c (fun _ => 0) (fun _ => 1000000000000) 0 64, qk_c (fun _ => 0) (fun _ => 1000000000000) 0 64, (fun _ => 0), (fun _ => 0), (fun _ => 0), (fun _ => 0), (fun _ => 0), (fun _ => 0), (fun _ => 0), (fun _ => 0), (fun _ => 0), (fun _ => 0), (fun _ => 0), (fun _ => 0), (fun _ => 0), (fun _ => 0), (fun _ => 0), (fun _ => 0))) : ∃ n172 : Nat, wX_init_172 post z 0 0 n172 0 (fun _ => 0) (fun _ => 0) (fun _ => 0) (fun _ => 0) (fun _ => 0) (fun _ => 0) (fun _ => 0) (fun _ => 0) (fun _ => 0) (fun _ => 0) (fun _ => 0) (fun _ => 0) (fun _ => 0) (fun _ => 0) (fun _ => 0) (fun _ => 0) (fun _ => 0) (fun _ => 0) := by
  have hl := wx_in172 (post := post) (g := z) (C := 0) (D := 0) (ro := fun _ => 0) (dr := fun _ => 0) (lw := fun _ => 0) (op := fun _ => false) (se := fun _ => false) (st := fun _ => 0) (sn := fun _ => 0) (rx := fun _ => 0) (wc := fun _ => 0) (wk := fun _ => 0) (wr := fun _ => 0) (sc := fun _ => 0) (sv := fun _ => 0) (pn := fun _ => 0) (pr := fun _ => 0) (pw := fun _ => 0) (pO := fun _ => false) (pI := fun _ => false) h 64 0 (by omega)
  rw [qk_0] at hl
  exact ⟨65, hl⟩
theorem i_vc0 (k0 : Int32) : wpX_init (fun u => wpY_init (fun v => i_Rel 1 u v) k0) k0 := by
  by_cases h2 : 2 ≤ k0
  · by_cases h6 : k0 ≤ 6
    · exact br_t h2 (br_t h6 (rl_in k0 (br_t h2 (br_t h6 (rl_zero k0)))))
    · exact br_t h2 (br_f h6 (rl_in 6 (br_t h2 (br_f h6 (rl_zero 6)))))
  · exact br_f h2 (br_t (by decide) (rl_in 2 (br_f h2 (rl_zero 2))))
end
