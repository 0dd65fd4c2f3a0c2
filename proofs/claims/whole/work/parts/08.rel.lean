/-! the relation, in four pieces, and how each lasts -/
def qs_S (wc : Nat → Nat) : Nat := wc 0 + wc 1 + wc 2 + wc 3
theorem qs_u {wc : Nat → Nat} {s v : Nat} (hs : s < 4) : qs_S (qu_p wc s v) + wc s = qs_S wc + v := by
  have h : s = 0 ∨ s = 1 ∨ s = 2 ∨ s = 3 := by omega
  rcases h with rfl | rfl | rfl | rfl <;> simp [qs_S, qu_p] <;> omega
theorem qs_ge {wc : Nat → Nat} {s : Nat} (hs : s < 4) : wc s ≤ qs_S wc := by
  have h : s = 0 ∨ s = 1 ∨ s = 2 ∨ s = 3 := by omega
  rcases h with rfl | rfl | rfl | rfl <;> simp only [qs_S] <;> omega
def rl_B (k C D H : Nat) (wc : Nat → Nat) : Prop := D ≤ C ∧ 5 * C + 1 ≤ k ∧ 5 * (H + qs_S wc) + 1 ≤ k
def rl_s (C : Nat) (op : Nat → Bool) (st wc yc sc ys sv wk : Nat → Nat) (rx ry wr : Nat → Int64) (yt : Nat → Bool) (yv : Nat → Int32) (s : Nat) : Prop :=
  wc s ≤ 12 ∧ (op s = false → wc s = 0 ∧ sc s = 0 ∧ rx s = 0) ∧
  (op s = true → yc s = wc s ∧ ys s = sc s ∧ sc s ≤ 3 ∧ rx s = ry s ∧ st s ≤ C ∧ (∀ i, i < sc s → sv (3 * s + i) ≤ wc s) ∧ (∀ i j, i ≤ j → j < sc s → sv (3 * s + i) ≤ sv (3 * s + j)) ∧ (∀ p, p < wc s → wk (12 * s + p) < 64 ∧ wr (12 * s + p) = qv_v yt yv (12 * s + p)))
def rl_H (C D H : Nat) (hc hk : Nat → Nat) (ht : Nat → Bool) (hv : Nat → Int32) (ro dr : Nat → Int64) (lw : Nat → Nat) (op : Nat → Bool) (st : Nat → Nat) (sn : Nat → Int64) : Prop :=
  (∀ i, i < H → hc i ≤ C ∧ hk i < 64) ∧ (∀ i j, i ≤ j → j < H → hc i ≤ hc j) ∧
  (∀ key, key < 64 → ro key = qa_f hc hk (qv_v ht hv) C key H ∧ dr key = qa_f hc hk (qv_v ht hv) D key H ∧ lw key ≤ C) ∧
  (∀ s, s < 4 → op s = true → ∀ key, key < 64 → sn (64 * s + key) = qa_f hc hk (qv_v ht hv) (st s) key H ∧ (st s < lw key ↔ ∃ i, i < H ∧ st s < hc i ∧ hk i = key))
def rl_P (C : Nat) (op se : Nat → Bool) (st pn : Nat → Nat) (pr pw : Nat → Int64) (pO pI : Nat → Bool) (cs : Nat → Nat) (cr cw : Nat → Int64) (kn : Nat → Bool) : Prop :=
  (∀ j, kn j = true → 1 ≤ j ∧ j ≤ C ∧ cs j < j) ∧
  (∀ i, i < 8 → pn i ≠ 0 → kn (pn i) = true ∧ pr i = cr (pn i) ∧ pw i = cw (pn i) ∧ (pO i = true ↔ ∃ j, qr_B cs cr cw kn (pn i) j) ∧ (pI i = true ↔ ∃ j, qr_B cs cr cw kn j (pn i))) ∧
  (∀ i i', i < 8 → i' < 8 → pn i ≠ 0 → pn i = pn i' → i = i') ∧
  (∀ j s, kn j = true → s < 4 → op s = true → se s = true → st s < j → ∃ i, i < 8 ∧ pn i = j)
section
variable {k C D H : Nat} {ro dr sn rx wr pr pw cr cw ry cr' cw' : Nat → Int64} {lw st wc wk sc sv pn hc hk cs yc ys cs' : Nat → Nat} {op op' se pO pI ht kn yt kn' : Nat → Bool} {hv yv : Nat → Int32}
theorem rl_Hop (h : rl_H C D H hc hk ht hv ro dr lw op st sn) (ho : ∀ o, op' o = true → op o = true) : rl_H C D H hc hk ht hv ro dr lw op' st sn :=
  ⟨h.1, h.2.1, h.2.2.1, fun s hs e => h.2.2.2 s hs (ho s e)⟩
theorem rl_Pop (h : rl_P C op se st pn pr pw pO pI cs cr cw kn) (ho : ∀ o, op' o = true → op o = true) : rl_P C op' se st pn pr pw pO pI cs cr cw kn :=
  ⟨h.1, h.2.1, h.2.2.1, fun j s hj hs e => h.2.2.2 j s hj hs (ho s e)⟩
theorem qu_off {s o : Nat} (h : qu_p op s false o = true) : o ≠ s ∧ op o = true := by
  by_cases e : o = s
  · subst e
    rw [qu_s] at h
    exact absurd h (by decide)
  · rw [qu_n e] at h
    exact ⟨e, h⟩
theorem rl_Hbegin {s : Nat} (hs : s < 4) (h : rl_H C D H hc hk ht hv ro dr lw op st sn) : rl_H C D H hc hk ht hv ro dr lw (qu_p op s true) (qu_p st s C) (qk_c sn ro (64 * s) 64) := by
  refine ⟨h.1, h.2.1, h.2.2.1, fun o ho e key hy => ?_⟩
  by_cases c : o = s
  · subst c
    obtain ⟨h1, _, h3⟩ := h.2.2.1 key hy
    rw [qu_s, qk_in hy]
    refine ⟨h1, ⟨fun z => by omega, fun ⟨i, hi, z, _⟩ => ?_⟩⟩
    have := (h.1 i hi).1
    omega
  · rw [qu_n c] at e
    rw [qu_n c, qk_out (by omega)]
    exact h.2.2.2 o ho e key hy
theorem rl_Hdur (h : rl_H C D H hc hk ht hv ro dr lw op st sn) : rl_H C C H hc hk ht hv ro (qk_c dr ro 0 64) lw op st sn :=
  ⟨h.1, h.2.1, fun key hy => ⟨(h.2.2.1 key hy).1, by rw [qk_in0 hy]; exact (h.2.2.1 key hy).1, (h.2.2.1 key hy).2.2⟩, h.2.2.2⟩
theorem rl_Hcrash (h : rl_H C D H hc hk ht hv ro dr lw op st sn) : rl_H D D (qc_c (fun i => decide (hc i ≤ D)) H) hc hk ht hv (qk_c ro dr 0 64) dr (qk_c lw (fun _ => 0) 0 64) (qk_c op (fun _ => false) 0 4) st sn := by
  have hp := qc_pre (P := fun i => decide (hc i ≤ D)) H (fun i j hij hj hd => decide_eq_true (Nat.le_trans (h.2.1 i j hij hj) (of_decide_eq_true hd)))
  have hL := qc_le (fun i => decide (hc i ≤ D)) H
  generalize qc_c (fun i => decide (hc i ≤ D)) H = L at *
  have hq : ∀ key, qa_f hc hk (qv_v ht hv) D key H = qa_f hc hk (qv_v ht hv) D key L := fun key => by
    have e := qa_ext (hc := hc) (hk := hk) (v := qv_v ht hv) (m := D) (key := key) (n := L) (H - L) (fun i hi hj => by
      have := hp i (by omega)
      rw [decide_eq_true_eq] at this
      omega)
    rw [show L + (H - L) = H by omega] at e
    exact e
  refine ⟨fun i hi => ⟨of_decide_eq_true ((hp i (by omega)).mpr hi), (h.1 i (by omega)).2⟩, fun i j hij hj => h.2.1 i j hij (by omega), fun key hy => ?_, fun s hs e => ?_⟩
  · obtain ⟨_, h2, _⟩ := h.2.2.1 key hy
    rw [qk_in0 hy, qk_in0 hy, ← hq key]
    exact ⟨h2, h2, Nat.zero_le _⟩
  · rw [qk_in0 hs] at e
    exact absurd e (by decide)
theorem rl_Hcommit {s : Nat} (hs : s < 4) (hst : ∀ o, o < 4 → op o = true → st o ≤ C) (hD : D ≤ C) (hp : ∀ p, p < wc s → wk (12 * s + p) < 64 ∧ wr (12 * s + p) = qv_v yt yv (12 * s + p)) (h : rl_H C D H hc hk ht hv ro dr lw op st sn) : rl_H (C + 1) D (H + wc s) (qk_c hc (fun _ => C + 1) H (wc s)) (qk_c hk (fun q => wk (12 * s + q)) H (wc s)) (qk_c ht (fun q => yt (12 * s + q)) H (wc s)) (qk_c hv (fun q => yv (12 * s + q)) H (wc s)) (qr_R wk wr (12 * s) ro (wc s)) dr (qr_N wk (C + 1) (12 * s) lw (wc s)) (qu_p op s false) st sn := by
  generalize gc : qk_c hc (fun _ => C + 1) H (wc s) = hc'
  generalize gk : qk_c hk (fun q => wk (12 * s + q)) H (wc s) = hk'
  generalize gv : qv_v (qk_c ht (fun q => yt (12 * s + q)) H (wc s)) (qk_c hv (fun q => yv (12 * s + q)) H (wc s)) = v'
  have o1 : ∀ i, i < H → hc' i = hc i ∧ hk' i = hk i ∧ v' i = qv_v ht hv i := fun i hi => by
    subst gc gk gv
    refine ⟨qk_out (Or.inl hi), qk_out (Or.inl hi), ?_⟩
    rw [qv_v, qv_v, qk_out (Or.inl hi), qk_out (Or.inl hi)]
  have n1 : ∀ p, p < wc s → hc' (H + p) = C + 1 ∧ hk' (H + p) = wk (12 * s + p) ∧ v' (H + p) = qv_v yt yv (12 * s + p) := fun p hpp => by
    subst gc gk gv
    refine ⟨qk_in hpp, qk_in hpp, ?_⟩
    rw [qv_v, qv_v, qk_in hpp, qk_in hpp]
  have n1' : ∀ i, H ≤ i → i < H + wc s → hc' i = C + 1 ∧ hk' i = wk (12 * s + (i - H)) := fun i h1 h2 => by
    obtain ⟨a, b, _⟩ := n1 (i - H) (by omega)
    rw [show H + (i - H) = i by omega] at a b
    exact ⟨a, b⟩
  have lo : ∀ m key, m ≤ C → qa_f hc' hk' v' m key (H + wc s) = qa_f hc hk (qv_v ht hv) m key H := fun m key hm => by
    rw [qa_ext (wc s) (fun i h1 h2 => by rw [(n1' i h1 h2).1]; omega), qa_c H o1]
  have hi : ∀ key p, p ≤ wc s → qa_f hc' hk' v' (C + 1) key (H + p) = ql_l wk (qv_v yt yv) (12 * s) key (qa_f hc hk (qv_v ht hv) C key H) p := fun key p => by
    induction p with
    | zero =>
      intro _
      show qa_f hc' hk' v' (C + 1) key H = qa_f hc hk (qv_v ht hv) C key H
      rw [qa_c H o1]
      exact qa_m H (fun i hi => by have := (h.1 i hi).1; omega)
    | succ p ih =>
      intro hpp
      obtain ⟨a, b, c⟩ := n1 p (by omega)
      rw [← Nat.add_assoc, qa_f, ql_l, ih (by omega), a, b, c]
      simp only [Nat.le_refl, true_and]
  refine ⟨fun i hi => ?_, fun i j hij hj => ?_, fun key hy => ?_, fun o ho e key hy => ?_⟩
  · rcases Nat.lt_or_ge i H with c | c
    · rw [(o1 i c).1, (o1 i c).2.1]
      exact ⟨by have := (h.1 i c).1; omega, (h.1 i c).2⟩
    · rw [(n1' i c hi).1, (n1' i c hi).2]
      exact ⟨by omega, (hp (i - H) (by omega)).1⟩
  · rcases Nat.lt_or_ge j H with c | c
    · rw [(o1 j c).1, (o1 i (by omega)).1]
      exact h.2.1 i j hij c
    · rw [(n1' j c hj).1]
      rcases Nat.lt_or_ge i H with c2 | c2
      · rw [(o1 i c2).1]
        have := (h.1 i c2).1
        omega
      · rw [(n1' i c2 (by omega)).1]
        omega
  · obtain ⟨h1, h2, h3⟩ := h.2.2.1 key hy
    refine ⟨?_, ?_, ?_⟩
    · rw [gv, hi key (wc s) (Nat.le_refl _), qr_Rl, h1]
      exact ql_c (wc s) (fun p hpp => (hp p hpp).2)
    · rw [gv, lo D key hD]
      exact h2
    · rw [qr_Nl]
      split <;> omega
  · obtain ⟨e1, e2⟩ := qu_off e
    obtain ⟨h1, h2⟩ := h.2.2.2 o ho e2 key hy
    have hle := hst o ho e2
    refine ⟨?_, ?_⟩
    · rw [gv, lo (st o) key hle]
      exact h1
    · rw [qr_Nl]
      by_cases c : qw_W wk (12 * s) key (wc s) = true
      · rw [if_pos c]
        obtain ⟨p, hpp, ep⟩ := (qw_iff _).mp c
        obtain ⟨a, b, _⟩ := n1 p hpp
        exact ⟨fun _ => ⟨H + p, by omega, by omega, by rw [b]; exact ep⟩, fun _ => by omega⟩
      · rw [if_neg c, h2]
        constructor
        · rintro ⟨i, hi, a, b⟩
          exact ⟨i, by omega, by rw [(o1 i hi).1]; exact a, by rw [(o1 i hi).2.1]; exact b⟩
        · rintro ⟨i, hi, a, b⟩
          rcases Nat.lt_or_ge i H with d | d
          · rw [(o1 i d).1] at a
            rw [(o1 i d).2.1] at b
            exact ⟨i, d, a, b⟩
          · rw [(n1' i d hi).2] at b
            exact absurd ((qw_iff _).mpr ⟨i - H, by omega, b⟩) c
theorem rl_Pbegin {s : Nat} {b : Bool} (h : rl_P C op se st pn pr pw pO pI cs cr cw kn) : rl_P C (qu_p op s true) (qu_p se s b) (qu_p st s C) pn pr pw pO pI cs cr cw kn := by
  refine ⟨h.1, h.2.1, h.2.2.1, fun j o hj ho e1 e2 e3 => ?_⟩
  by_cases c : o = s
  · subst c
    rw [qu_s] at e3
    have := (h.1 j hj).2.1
    omega
  · rw [qu_n c] at e1 e2 e3
    exact h.2.2.2 j o hj ho e1 e2 e3
theorem rl_Pkeep {C' : Nat} (hC : C ≤ C') (hkn : ∀ j, kn' j = kn j) (hcs : ∀ j, j ≤ C → cs' j = cs j ∧ cr' j = cr j ∧ cw' j = cw j) (h : rl_P C op se st pn pr pw pO pI cs cr cw kn) : rl_P C' op se st pn pr pw pO pI cs' cr' cw' kn' := by
  have hk : kn' = kn := funext hkn
  subst hk
  have ha : ∀ i j, qr_B cs' cr' cw' kn' i j ↔ qr_B cs cr cw kn' i j := fun i j => by
    constructor
    · rintro ⟨a, b, c, d, e, f⟩
      obtain ⟨p1, p2, p3⟩ := hcs i (h.1 i b).2.1
      obtain ⟨q1, q2, q3⟩ := hcs j (h.1 j c).2.1
      exact ⟨a, b, c, by rw [← p1]; exact d, by rw [← q1]; exact e, by rw [← p2, ← q3]; exact f⟩
    · rintro ⟨a, b, c, d, e, f⟩
      obtain ⟨p1, p2, p3⟩ := hcs i (h.1 i b).2.1
      obtain ⟨q1, q2, q3⟩ := hcs j (h.1 j c).2.1
      exact ⟨a, b, c, by rw [p1]; exact d, by rw [q1]; exact e, by rw [p2, q3]; exact f⟩
  refine ⟨fun j hj => ?_, fun i hi hn => ?_, h.2.2.1, h.2.2.2⟩
  · obtain ⟨a, b, c⟩ := h.1 j hj
    exact ⟨a, by omega, by rw [(hcs j b).1]; exact c⟩
  · obtain ⟨a, b, c, d, e⟩ := h.2.1 i hi hn
    obtain ⟨p1, p2, p3⟩ := hcs (pn i) (h.1 _ a).2.1
    refine ⟨a, by rw [p2]; exact b, by rw [p3]; exact c, ?_, ?_⟩
    · simp only [ha]
      exact d
    · simp only [ha]
      exact e
theorem rl_Pcrash (h : rl_P C op se st pn pr pw pO pI cs cr cw kn) : rl_P D (qk_c op (fun _ => false) 0 4) se st (qk_c pn (fun _ => 0) 0 8) pr pw pO pI cs cr cw (qk_c kn (fun _ => false) 1 C) := by
  have hn : ∀ j, ¬ qk_c kn (fun _ => false) 1 C j = true := fun j hj => by
    by_cases c : 1 ≤ j ∧ j < 1 + C
    · rw [qk_c, if_pos c] at hj
      exact absurd hj (by decide)
    · rw [qk_c, if_neg c] at hj
      have := h.1 j hj
      omega
  refine ⟨fun j hj => absurd hj (hn j), fun i hi h0 => ?_, fun i i' hi hi' h0 => ?_, fun j s hj => absurd hj (hn j)⟩
  · rw [qk_in0 hi] at h0
    exact absurd rfl h0
  · rw [qk_in0 hi] at h0
    exact absurd rfl h0
end
