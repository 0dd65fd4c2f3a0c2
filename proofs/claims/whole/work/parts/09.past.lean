section
variable {k C D H : Nat} {ro dr sn rx wr pr pw cr cw ry : Nat → Int64} {lw st wc wk sc sv pn hc hk cs yc ys : Nat → Nat} {op se pO pI ht kn yt : Nat → Bool} {hv yv : Nat → Int32}
/-- the arrows once number C + 1 stands beside the past: among the past as before; to and from it, as the component looks -/
theorem rl_ar {s : Nat} {w : Int64} (h : ∀ j, kn j = true → 1 ≤ j ∧ j ≤ C ∧ cs j < j) : (∀ i j, i ≠ C + 1 → j ≠ C + 1 → (qr_B (qu_p cs (C + 1) (st s)) (qu_p cr (C + 1) (rx s)) (qu_p cw (C + 1) w) (qu_p kn (C + 1) true) i j ↔ qr_B cs cr cw kn i j)) ∧ (∀ j, qr_B (qu_p cs (C + 1) (st s)) (qu_p cr (C + 1) (rx s)) (qu_p cw (C + 1) w) (qu_p kn (C + 1) true) (C + 1) j ↔ kn j = true ∧ st s < j ∧ ¬ (rx s &&& cw j) = 0) ∧ (∀ j, qr_B (qu_p cs (C + 1) (st s)) (qu_p cr (C + 1) (rx s)) (qu_p cw (C + 1) w) (qu_p kn (C + 1) true) j (C + 1) ↔ kn j = true ∧ st s < j ∧ ¬ (cr j &&& w) = 0) := by
  have hn : kn (C + 1) = true → False := fun z => by have := h _ z; omega
  refine ⟨fun i j hi hj => ?_, fun j => ?_, fun j => ?_⟩
  · rw [qr_B, qr_B, qu_n hi, qu_n hi, qu_n hi, qu_n hj, qu_n hj, qu_n hj]
  · constructor
    · rintro ⟨a, b, c, d, e, f⟩
      have hj : j ≠ C + 1 := Ne.symm a
      rw [qu_n hj] at c
      rw [qu_s] at d
      rw [qu_s, qu_n hj] at f
      exact ⟨c, d, f⟩
    · rintro ⟨c, d, f⟩
      have hj : j ≠ C + 1 := fun z => hn (z ▸ c)
      refine ⟨Ne.symm hj, qu_s, by rw [qu_n hj]; exact c, by rw [qu_s]; exact d, ?_, by rw [qu_s, qu_n hj]; exact f⟩
      rw [qu_n hj]
      have := h j c
      omega
  · constructor
    · rintro ⟨a, b, c, d, e, f⟩
      rw [qu_n a] at b
      rw [qu_s] at e
      rw [qu_s, qu_n a] at f
      exact ⟨b, e, f⟩
    · rintro ⟨c, d, f⟩
      have hj : j ≠ C + 1 := fun z => hn (z ▸ c)
      refine ⟨hj, by rw [qu_n hj]; exact c, qu_s, ?_, by rw [qu_s]; exact d, by rw [qu_s, qu_n hj]; exact f⟩
      rw [qu_n hj]
      have := h j c
      omega
/-- what the slots show of the arrows to and from the one that commits -/
theorem rl_sl {s : Nat} {w : Int64} (hs : s < 4) (ho : op s = true) (hse : se s = true) (h : rl_P C op se st pn pr pw pO pI cs cr cw kn) : (∀ i, i < 8 → (qt_T st pn rx pw s i = true ↔ pn i ≠ 0 ∧ st s < pn i ∧ ¬ (rx s &&& cw (pn i)) = 0)) ∧ (∀ i, i < 8 → (qt_R st pn pr w s i = true ↔ pn i ≠ 0 ∧ st s < pn i ∧ ¬ (cr (pn i) &&& w) = 0)) ∧ (∀ j, kn j = true → st s < j → ∃ i, i < 8 ∧ pn i = j ∧ pn i ≠ 0) := by
  refine ⟨fun i hi => ?_, fun i hi => ?_, fun j hj hlt => ?_⟩
  · rw [qt_Ti]
    constructor
    · rintro ⟨a, b⟩
      have h0 : pn i ≠ 0 := by omega
      rw [(h.2.1 i hi h0).2.2.1] at b
      exact ⟨h0, a, b⟩
    · rintro ⟨h0, a, b⟩
      rw [(h.2.1 i hi h0).2.2.1]
      exact ⟨a, b⟩
  · rw [qt_Ri]
    constructor
    · rintro ⟨a, b⟩
      have h0 : pn i ≠ 0 := by omega
      rw [(h.2.1 i hi h0).2.1] at b
      exact ⟨h0, a, b⟩
    · rintro ⟨h0, a, b⟩
      rw [(h.2.1 i hi h0).2.1]
      exact ⟨a, b⟩
  · obtain ⟨i, hi, e⟩ := h.2.2.2 j s hj hs ho hse hlt
    exact ⟨i, hi, e, by have := (h.1 j hj).1; omega⟩
theorem rl_dang {s : Nat} {w : Int64} (hs : s < 4) (ho : op s = true) (hse : se s = true) (h : rl_P C op se st pn pr pw pO pI cs cr cw kn) : (∃ m, qr_D (qu_p cs (C + 1) (st s)) (qu_p cr (C + 1) (rx s)) (qu_p cw (C + 1) w) (qu_p kn (C + 1) true) (C + 1) m) ↔ (∃ i, i < 8 ∧ qt_T st pn rx pw s i = true ∧ pO i = true) ∨ (∃ i, i < 8 ∧ qt_R st pn pr w s i = true ∧ pI i = true) ∨ ((∃ i, i < 8 ∧ qt_T st pn rx pw s i = true) ∧ (∃ i, i < 8 ∧ qt_R st pn pr w s i = true)) := by
  obtain ⟨a1, a2, a3⟩ := rl_ar (cr := cr) (cw := cw) (rx := rx) (st := st) (s := s) (w := w) h.1
  obtain ⟨t1, t2, t3⟩ := rl_sl (rx := rx) (w := w) hs ho hse h
  have hT : (∃ j, qr_B (qu_p cs (C + 1) (st s)) (qu_p cr (C + 1) (rx s)) (qu_p cw (C + 1) w) (qu_p kn (C + 1) true) (C + 1) j) → ∃ i, i < 8 ∧ qt_T st pn rx pw s i = true := by
    rintro ⟨j, hj⟩
    obtain ⟨c, d, f⟩ := (a2 j).mp hj
    obtain ⟨i, hi, e, h0⟩ := t3 j c d
    exact ⟨i, hi, (t1 i hi).mpr ⟨h0, by rw [e]; exact d, by rw [e]; exact f⟩⟩
  have hR : (∃ j, qr_B (qu_p cs (C + 1) (st s)) (qu_p cr (C + 1) (rx s)) (qu_p cw (C + 1) w) (qu_p kn (C + 1) true) j (C + 1)) → ∃ i, i < 8 ∧ qt_R st pn pr w s i = true := by
    rintro ⟨j, hj⟩
    obtain ⟨c, d, f⟩ := (a3 j).mp hj
    obtain ⟨i, hi, e, h0⟩ := t3 j c d
    exact ⟨i, hi, (t2 i hi).mpr ⟨h0, by rw [e]; exact d, by rw [e]; exact f⟩⟩
  have hne : ∀ j, kn j = true → j ≠ C + 1 := fun j hj => by have := (h.1 j hj).2.1; omega
  constructor
  · rintro ⟨m, hm, ⟨i, hi⟩, ⟨j, hj⟩⟩
    by_cases c : m = C + 1
    · subst c
      exact Or.inr (Or.inr ⟨hT ⟨j, hj⟩, hR ⟨i, hi⟩⟩)
    · rcases hm with hm | hm | hm
      · exact absurd hm c
      · by_cases ci : i = C + 1
        · subst ci
          exact Or.inr (Or.inr ⟨hT ⟨m, hi⟩, hR ⟨m, hm⟩⟩)
        · obtain ⟨k1, k2, k3⟩ := (a3 m).mp hm
          obtain ⟨q, hq, e, h0⟩ := t3 m k1 k2
          refine Or.inr (Or.inl ⟨q, hq, (t2 q hq).mpr ⟨h0, by rw [e]; exact k2, by rw [e]; exact k3⟩, ?_⟩)
          rw [(h.2.1 q hq h0).2.2.2.2, e]
          exact ⟨i, (a1 i m ci c).mp hi⟩
      · by_cases cj : j = C + 1
        · subst cj
          exact Or.inr (Or.inr ⟨hT ⟨m, hm⟩, hR ⟨m, hj⟩⟩)
        · obtain ⟨k1, k2, k3⟩ := (a2 m).mp hm
          obtain ⟨q, hq, e, h0⟩ := t3 m k1 k2
          refine Or.inl ⟨q, hq, (t1 q hq).mpr ⟨h0, by rw [e]; exact k2, by rw [e]; exact k3⟩, ?_⟩
          rw [(h.2.1 q hq h0).2.2.2.1, e]
          exact ⟨j, (a1 m j c cj).mp hj⟩
  · rintro (⟨i, hi, x, y⟩ | ⟨i, hi, x, y⟩ | ⟨⟨i, hi, x⟩, ⟨j, hj, y⟩⟩)
    · obtain ⟨h0, b, c⟩ := (t1 i hi).mp x
      obtain ⟨g1, g2, g3, g4, g5⟩ := h.2.1 i hi h0
      obtain ⟨j, hj⟩ := g4.mp y
      have e1 := (a2 (pn i)).mpr ⟨g1, b, c⟩
      exact ⟨pn i, Or.inr (Or.inr e1), ⟨C + 1, e1⟩, ⟨j, (a1 _ _ (hne _ g1) (hne _ hj.2.2.1)).mpr hj⟩⟩
    · obtain ⟨h0, b, c⟩ := (t2 i hi).mp x
      obtain ⟨g1, g2, g3, g4, g5⟩ := h.2.1 i hi h0
      obtain ⟨j, hj⟩ := g5.mp y
      have e1 := (a3 (pn i)).mpr ⟨g1, b, c⟩
      exact ⟨pn i, Or.inr (Or.inl e1), ⟨j, (a1 _ _ (hne _ hj.2.1) (hne _ g1)).mpr hj⟩, ⟨C + 1, e1⟩⟩
    · obtain ⟨h0, b, c⟩ := (t1 i hi).mp x
      obtain ⟨h0', b', c'⟩ := (t2 j hj).mp y
      exact ⟨C + 1, Or.inl rfl, ⟨pn j, (a3 _).mpr ⟨(h.2.1 j hj h0').1, b', c'⟩⟩, ⟨pn i, (a2 _).mpr ⟨(h.2.1 i hi h0).1, b, c⟩⟩⟩
theorem rl_trk {b : Int32} (h : rl_P C op se st pn pr pw pO pI cs cr cw kn) : qc_c (fun i => qt_K op se st b (pn i)) 8 = qc_c (fun j => kn j && qt_K op se st b j) (C + 1) := by
  have hk : ∀ i, i < 8 → qt_K op se st b (pn i) = true → pn i ≠ 0 := fun i hi z => by
    obtain ⟨o, _, _, _, _, hlt⟩ := qt_iff.mp z
    omega
  refine qc_bij (f := pn) 8 _ (fun i hi z => ?_) (fun i i' hi hi' z z' e => h.2.2.1 i i' hi hi' (hk i hi z) e) (fun j hj z => ?_)
  · obtain ⟨g1, _⟩ := h.2.1 i hi (hk i hi z)
    have := (h.1 _ g1).2.1
    refine ⟨by omega, ?_⟩
    show (kn (pn i) && qt_K op se st b (pn i)) = true
    rw [g1, z]
    rfl
  · have z' : (kn j && qt_K op se st b j) = true := z
    rw [Bool.and_eq_true] at z'
    obtain ⟨o, ho, _, e1, e2, e3⟩ := qt_iff.mp z'.2
    obtain ⟨i, hi, e⟩ := h.2.2.2 j o z'.1 ho e1 e2 e3
    refine ⟨i, hi, ?_, e⟩
    show qt_K op se st b (pn i) = true
    rw [e]
    exact z'.2
theorem rl_free {b : Int32} (hlt : qc_c (fun i => qt_K op se st b (pn i)) 8 < 8) : ∃ f, f < 8 ∧ qt_K op se st b (pn f) = false := by
  refine Classical.byContradiction fun hn => ?_
  have hall : ∀ m, m ≤ 8 → qc_c (fun i => qt_K op se st b (pn i)) m = m := by
    intro m
    induction m with
    | zero => intro _; rfl
    | succ m ih =>
      intro hm
      rw [qc_c, ih (by omega), if_pos]
      show qt_K op se st b (pn m) = true
      cases hq : qt_K op se st b (pn m)
      · exact absurd ⟨m, by omega, hq⟩ hn
      · rfl
  rw [hall 8 (Nat.le_refl 8)] at hlt
  omega
theorem rl_Pcommit {s f : Nat} {w : Int64} (hs : s < 4) (ho : op s = true) (hse : se s = true) (hf : f < 8) (hfree : qt_K op se st (nI s) (pn f) = false) (hst : st s ≤ C) (h : rl_P C op se st pn pr pw pO pI cs cr cw kn) : rl_P (C + 1) (qu_p op s false) se st (qu_p pn f (C + 1)) (qu_p pr f (rx s)) (qu_p pw f w) (qu_p (qf_m pO (qt_R st pn pr w s) 8) f (qe_x (qt_T st pn rx pw s) 8)) (qu_p (qf_m pI (qt_T st pn rx pw s) 8) f (qe_x (qt_R st pn pr w s) 8)) (qu_p cs (C + 1) (st s)) (qu_p cr (C + 1) (rx s)) (qu_p cw (C + 1) w) (qu_p kn (C + 1) true) := by
  obtain ⟨a1, a2, a3⟩ := rl_ar (cr := cr) (cw := cw) (rx := rx) (st := st) (s := s) (w := w) h.1
  obtain ⟨t1, t2, t3⟩ := rl_sl (rx := rx) (w := w) hs ho hse h
  have hne : ∀ j, kn j = true → j ≠ C + 1 := fun j hj => by have := (h.1 j hj).2.1; omega
  refine ⟨fun j hj => ?_, fun i hi h0 => ?_, fun i i' hi hi' h0 e => ?_, fun j o hj ho4 e1 e2 e3 => ?_⟩
  · by_cases c : j = C + 1
    · subst c
      rw [qu_s]
      omega
    · rw [qu_n c] at hj
      rw [qu_n c]
      have := h.1 j hj
      omega
  · by_cases c : i = f
    · subst c
      rw [qu_s, qu_s, qu_s, qu_s, qu_s, qu_s, qu_s, qu_s]
      refine ⟨rfl, rfl, rfl, ?_, ?_⟩
      · rw [qe_iff]
        constructor
        · rintro ⟨q, hq, x⟩
          obtain ⟨g0, b, c⟩ := (t1 q hq).mp x
          exact ⟨pn q, (a2 _).mpr ⟨(h.2.1 q hq g0).1, b, c⟩⟩
        · rintro ⟨j, hj⟩
          obtain ⟨c, d, f⟩ := (a2 j).mp hj
          obtain ⟨q, hq, e, g0⟩ := t3 j c d
          exact ⟨q, hq, (t1 q hq).mpr ⟨g0, by rw [e]; exact d, by rw [e]; exact f⟩⟩
      · rw [qe_iff]
        constructor
        · rintro ⟨q, hq, x⟩
          obtain ⟨g0, b, c⟩ := (t2 q hq).mp x
          exact ⟨pn q, (a3 _).mpr ⟨(h.2.1 q hq g0).1, b, c⟩⟩
        · rintro ⟨j, hj⟩
          obtain ⟨c, d, f⟩ := (a3 j).mp hj
          obtain ⟨q, hq, e, g0⟩ := t3 j c d
          exact ⟨q, hq, (t2 q hq).mpr ⟨g0, by rw [e]; exact d, by rw [e]; exact f⟩⟩
    · rw [qu_n c] at h0
      obtain ⟨g1, g2, g3, g4, g5⟩ := h.2.1 i hi h0
      have hni := hne _ g1
      rw [qu_n c, qu_n c, qu_n c, qu_n c, qu_n c, qu_n hni, qu_n hni, qu_n hni]
      refine ⟨g1, g2, g3, ?_, ?_⟩
      · show (pO i || (decide (i < 8) && qt_R st pn pr w s i)) = true ↔ _
        rw [decide_eq_true hi, Bool.true_and, Bool.or_eq_true, g4, t2 i hi]
        constructor
        · rintro (⟨j, hj⟩ | ⟨_, b, c⟩)
          · exact ⟨j, (a1 _ _ hni (hne _ hj.2.2.1)).mpr hj⟩
          · exact ⟨C + 1, (a3 _).mpr ⟨g1, b, c⟩⟩
        · rintro ⟨j, hj⟩
          by_cases cj : j = C + 1
          · subst cj
            exact Or.inr ⟨h0, ((a3 _).mp hj).2⟩
          · exact Or.inl ⟨j, (a1 _ _ hni cj).mp hj⟩
      · show (pI i || (decide (i < 8) && qt_T st pn rx pw s i)) = true ↔ _
        rw [decide_eq_true hi, Bool.true_and, Bool.or_eq_true, g5, t1 i hi]
        constructor
        · rintro (⟨j, hj⟩ | ⟨_, b, c⟩)
          · exact ⟨j, (a1 _ _ (hne _ hj.2.1) hni).mpr hj⟩
          · exact ⟨C + 1, (a2 _).mpr ⟨g1, b, c⟩⟩
        · rintro ⟨j, hj⟩
          by_cases cj : j = C + 1
          · subst cj
            exact Or.inr ⟨h0, ((a2 _).mp hj).2⟩
          · exact Or.inl ⟨j, (a1 _ _ cj hni).mp hj⟩
  · have hb : ∀ q, q < 8 → q ≠ f → pn q ≠ C + 1 := fun q hq _ z => by
      have := h.2.1 q hq (by omega)
      exact hne _ this.1 z
    by_cases c : i = f
    · by_cases c' : i' = f
      · omega
      · subst c
        rw [qu_s, qu_n c'] at e
        exact absurd e.symm (hb i' hi' c')
    · by_cases c' : i' = f
      · subst c'
        rw [qu_s, qu_n c] at e
        exact absurd e (hb i hi c)
      · rw [qu_n c] at h0
        rw [qu_n c, qu_n c'] at e
        exact h.2.2.1 i i' hi hi' h0 e
  · obtain ⟨g1, g2⟩ := qu_off e1
    by_cases c : j = C + 1
    · exact ⟨f, hf, by rw [qu_s]; exact c.symm⟩
    · rw [qu_n c] at hj
      obtain ⟨i, hi, e⟩ := h.2.2.2 j o hj ho4 g2 e2 e3
      refine ⟨i, hi, ?_⟩
      rw [qu_n]
      · exact e
      · intro z
        subst z
        have : qt_K op se st (nI s) (pn i) = true := qt_iff.mpr ⟨o, ho4, fun z => g1 ((nI_eq (by omega) (by omega)).mp z), g2, e2, by omega⟩
        rw [this] at hfree
        exact absurd hfree (by decide)
end
