/-! the start: the reference's object -/
def Ly2 (g1 : Gh) (m j s : Nat) (T : List (Nat × Nat × Nat)) (R : List (Nat × Nat)) (g : Gh) : Prop := (qn g = m + j ∧ qs g = s ∧ 1 ≤ j) ∧ Far g1 g ∧ qk g m = 13 ∧ (∀ p, p ∈ T → (1 ≤ p.1 ∧ p.1 < j) ∧ qk g (m + p.1) = p.2.1 ∧ qA g (m + p.1) = List.replicate p.2.2 0) ∧ (∀ p, p ∈ R → qr g (100 * 12 + p.1) m = m + p.2) ∧ ∀ f, f / 100 = 12 → qi g f m = 0
section
variable {g1 g : Gh} {m j s : Nat} {T : List (Nat × Nat × Nat)} {R : List (Nat × Nat)} {α : Type} {Q : α → Gh → Prop}
theorem l2_O {k : Nat → M α} (hm : qn g1 = m) (hx : ∀ g', Ly2 g1 m 1 (qs g1 + 54) [] [] g' → ok (k m) g' Q) : ok (bd (nw 12 54) k) g1 Q := by
  refine ok_nw (by decide) ?_
  rw [hm]
  refine hx _ ⟨⟨by rw [p_qn_wO, hm], rfl, Nat.le_refl _⟩, ⟨fun a ha => vu_ne (by omega), fun f a ha => if_neg (by omega), fun f a ha => if_neg (by omega), rfl, rfl, rfl, rfl⟩, ?_, fun p hp => (by cases hp), fun p hp => (by cases hp), fun f hf => if_pos ⟨hf, hm.symm⟩⟩
  rw [p_qk_wO, hm]
  exact vu_eq
theorem l2_A {kk n : Nat} {x : Int32} {k : Nat → M α} (hm : qn g1 = m) (h : Ly2 g1 m j s T R g) (hkk : kk = 21 ∨ kk = 22 ∨ kk = 23) (hi : x = nI n) (h6 : n ≤ 60000) (hx : ∀ g', Ly2 g1 m (j + 1) (s + n) ((j, kk, n) :: T) R g' → ok (k (m + j)) g' Q) : ok (bd (na kk x) k) g Q := by
  obtain ⟨⟨h1, h2, h3⟩, ⟨f1, f2, f3, f4, f5, f6, f7⟩, h4, h5, h6', h7⟩ := h
  refine ok_na hkk hi h6 ?_
  rw [h1]
  have ek : qk (wNA g kk n) = va_up (qk g) (m + j) kk := by rw [← h1]; rfl
  have eA : qA (wNA g kk n) = va_up (qA g) (m + j) (List.replicate n 0) := by rw [← h1]; rfl
  refine hx _ ⟨⟨?_, ?_, by omega⟩, ⟨fun a ha => ?_, f2, f3, f4, f5, f6, f7⟩, ?_, fun p hp => ?_, h6', h7⟩
  · show qn g + 1 = m + (j + 1)
    omega
  · show qs g + n = s + n
    omega
  · rw [ek]
    exact (vu_ne (by omega)).trans (f1 a ha)
  · rw [ek]
    exact (vu_ne (by omega)).trans h4
  · rw [ek, eA]
    rcases List.mem_cons.mp hp with q | hp
    · subst q
      exact ⟨⟨h3, Nat.lt_succ_self _⟩, vu_eq, vu_eq⟩
    · obtain ⟨q1, q2, q3⟩ := h5 p hp
      exact ⟨⟨q1.1, by omega⟩, (vu_ne (by omega)).trans q2, (vu_ne (by omega)).trans q3⟩
theorem l2_R {f b : Nat} {k : Unit → M α} (hm : qn g1 = m) (h : Ly2 g1 m j s T R g) (hr : ∀ p, p ∈ R → p.1 ≠ f) (hd : gRk 12 f = true) (hx : ∀ g', Ly2 g1 m j s T ((f, b) :: R) g' → ok (k ()) g' Q) : ok (bd (pV 12 f m (.ref (m + b))) k) g Q := by
  obtain ⟨h1, ⟨f1, f2, f3, f4, f5, f6, f7⟩, h4, h5, h6, h7⟩ := h
  refine ok_pR h4 (hx _ ⟨h1, ⟨f1, f2, fun q a ha => (u2_ne (by omega)).trans (f3 q a ha), f4, f5, f6, f7⟩, h4, h5, fun p hp => ?_, h7⟩) hd
  rw [p_qr_wR]
  rcases List.mem_cons.mp hp with q | hp
  · subst q
    exact u2_eq
  · have := hr p hp
    exact (u2_ne (by omega)).trans (h6 p hp)
end
def TT : List (Nat × Nat × Nat) := [(26, 22, 1200), (25, 22, 1200), (24, 22, 1200), (23, 22, 1200), (22, 21, 19200), (21, 22, 4200), (20, 22, 1200), (19, 22, 1200), (18, 22, 1200), (17, 21, 19200), (16, 22, 1200), (15, 22, 1200), (14, 22, 1200), (13, 22, 1200), (12, 22, 1200), (11, 21, 19200), (10, 21, 64), (9, 21, 80), (8, 21, 16484), (7, 22, 4200), (6, 22, 4200), (5, 22, 4200), (4, 22, 4200), (3, 22, 4200), (2, 22, 4200), (1, 21, 16384)]
def RR : List (Nat × Nat) := [(52, 26), (51, 25), (50, 24), (49, 23), (48, 22), (44, 21), (41, 20), (40, 19), (39, 18), (38, 17), (32, 16), (31, 15), (30, 14), (29, 13), (28, 12), (27, 11), (17, 10), (15, 9), (13, 8), (11, 7), (10, 6), (9, 5), (7, 4), (6, 3), (5, 2), (3, 1)]
set_option maxRecDepth 20000 in
theorem m_init {g1 : Gh} {m : Nat} {K : Nat → Unit → M Int32} {Q : Int32 → Gh → Prop} (hm : qn g1 = m) (hk : ∀ g, Ly2 g1 m 27 (qs g1 + 134466) TT RR g → ok (X9_reset m 4096 512) g (fun _ g' => ok (K m ()) g' Q)) : ok (bd (nw 12 54) (fun y2 => bd (X9_init y2) (K y2))) g1 Q := by
  refine l2_O hm (fun g0 h0 => ok_bd ?_)
  unfold X9_init
  refine l2_A hm h0 (n := 16384) (by decide) rfl (by decide) (fun g1 h1 => ?_)
  refine l2_R hm h1 (by decide) rfl (fun g2 h2 => ?_)
  refine l2_A hm h2 (n := 4200) (by decide) rfl (by decide) (fun g3 h3 => ?_)
  refine l2_R hm h3 (by decide) rfl (fun g4 h4 => ?_)
  refine l2_A hm h4 (n := 4200) (by decide) rfl (by decide) (fun g5 h5 => ?_)
  refine l2_R hm h5 (by decide) rfl (fun g6 h6 => ?_)
  refine l2_A hm h6 (n := 4200) (by decide) rfl (by decide) (fun g7 h7 => ?_)
  refine l2_R hm h7 (by decide) rfl (fun g8 h8 => ?_)
  refine l2_A hm h8 (n := 4200) (by decide) rfl (by decide) (fun g9 h9 => ?_)
  refine l2_R hm h9 (by decide) rfl (fun g10 h10 => ?_)
  refine l2_A hm h10 (n := 4200) (by decide) rfl (by decide) (fun g11 h11 => ?_)
  refine l2_R hm h11 (by decide) rfl (fun g12 h12 => ?_)
  refine l2_A hm h12 (n := 4200) (by decide) rfl (by decide) (fun g13 h13 => ?_)
  refine l2_R hm h13 (by decide) rfl (fun g14 h14 => ?_)
  refine l2_A hm h14 (n := 16484) (by decide) rfl (by decide) (fun g15 h15 => ?_)
  refine l2_R hm h15 (by decide) rfl (fun g16 h16 => ?_)
  refine l2_A hm h16 (n := 80) (by decide) rfl (by decide) (fun g17 h17 => ?_)
  refine l2_R hm h17 (by decide) rfl (fun g18 h18 => ?_)
  refine l2_A hm h18 (n := 64) (by decide) rfl (by decide) (fun g19 h19 => ?_)
  refine l2_R hm h19 (by decide) rfl (fun g20 h20 => ?_)
  refine l2_A hm h20 (n := 19200) (by decide) rfl (by decide) (fun g21 h21 => ?_)
  refine l2_R hm h21 (by decide) rfl (fun g22 h22 => ?_)
  refine l2_A hm h22 (n := 1200) (by decide) rfl (by decide) (fun g23 h23 => ?_)
  refine l2_R hm h23 (by decide) rfl (fun g24 h24 => ?_)
  refine l2_A hm h24 (n := 1200) (by decide) rfl (by decide) (fun g25 h25 => ?_)
  refine l2_R hm h25 (by decide) rfl (fun g26 h26 => ?_)
  refine l2_A hm h26 (n := 1200) (by decide) rfl (by decide) (fun g27 h27 => ?_)
  refine l2_R hm h27 (by decide) rfl (fun g28 h28 => ?_)
  refine l2_A hm h28 (n := 1200) (by decide) rfl (by decide) (fun g29 h29 => ?_)
  refine l2_R hm h29 (by decide) rfl (fun g30 h30 => ?_)
  refine l2_A hm h30 (n := 1200) (by decide) rfl (by decide) (fun g31 h31 => ?_)
  refine l2_R hm h31 (by decide) rfl (fun g32 h32 => ?_)
  refine l2_A hm h32 (n := 19200) (by decide) rfl (by decide) (fun g33 h33 => ?_)
  refine l2_R hm h33 (by decide) rfl (fun g34 h34 => ?_)
  refine l2_A hm h34 (n := 1200) (by decide) rfl (by decide) (fun g35 h35 => ?_)
  refine l2_R hm h35 (by decide) rfl (fun g36 h36 => ?_)
  refine l2_A hm h36 (n := 1200) (by decide) rfl (by decide) (fun g37 h37 => ?_)
  refine l2_R hm h37 (by decide) rfl (fun g38 h38 => ?_)
  refine l2_A hm h38 (n := 1200) (by decide) rfl (by decide) (fun g39 h39 => ?_)
  refine l2_R hm h39 (by decide) rfl (fun g40 h40 => ?_)
  refine l2_A hm h40 (n := 4200) (by decide) rfl (by decide) (fun g41 h41 => ?_)
  refine l2_R hm h41 (by decide) rfl (fun g42 h42 => ?_)
  refine l2_A hm h42 (n := 19200) (by decide) rfl (by decide) (fun g43 h43 => ?_)
  refine l2_R hm h43 (by decide) rfl (fun g44 h44 => ?_)
  refine l2_A hm h44 (n := 1200) (by decide) rfl (by decide) (fun g45 h45 => ?_)
  refine l2_R hm h45 (by decide) rfl (fun g46 h46 => ?_)
  refine l2_A hm h46 (n := 1200) (by decide) rfl (by decide) (fun g47 h47 => ?_)
  refine l2_R hm h47 (by decide) rfl (fun g48 h48 => ?_)
  refine l2_A hm h48 (n := 1200) (by decide) rfl (by decide) (fun g49 h49 => ?_)
  refine l2_R hm h49 (by decide) rfl (fun g50 h50 => ?_)
  refine l2_A hm h50 (n := 1200) (by decide) rfl (by decide) (fun g51 h51 => ?_)
  refine l2_R hm h51 (by decide) rfl (fun g52 h52 => ?_)
  refine ok_ck h52.2.2.1 ?_
  exact ok_bd (ok_mono (hk g52 h52) (fun v g' q => ok_pu q))
theorem adK_hi {k : Nat} (h : adK k ≠ 0) : k < 53 := by
  apply Decidable.byContradiction
  intro q
  refine h ?_
  unfold adK
  simp only [List.foldr]
  repeat rw [if_neg (by omega)]
theorem m_mk {g1 g : Gh} {m s : Nat} (h0 : 0 < m) (h : Ly2 g1 m 27 s TT RR g) : Mk m g := by
  have kd : ∀ q, q < 27 → 1 ≤ q → ∃ p, p ∈ TT ∧ p.1 = q ∧ p.2.1 = knd q := by decide
  have rd : ∀ k, k < 53 → adK k ≠ 0 → (k, adK k) ∈ RR := by decide
  refine ⟨h0, h.2.2.1, fun q q1 q2 => ?_, fun k hk => ?_⟩
  · obtain ⟨p, p1, p2, p3⟩ := kd q (by omega) q1
    rw [← p2, (h.2.2.2.1 p p1).2.1, p3, p2]
  · exact h.2.2.2.2.1 _ (rd k (adK_hi hk) hk)
/-- the reference's part, as it lies -/
def S0 : MS := ((fun _ => 0), (fun q => List.replicate ((TT.find? (fun p => p.1 == q)).elim 0 (fun p => p.2.2)) 0))
theorem m_at {g1 g : Gh} {m s : Nat} (h : Ly2 g1 m 27 s TT RR g) : At m g S0 := by
  have kd : ∀ q, q < 27 → 1 ≤ q → ∃ p, p ∈ TT ∧ p.1 = q ∧ (TT.find? (fun p => p.1 == q)).elim 0 (fun p => p.2.2) = p.2.2 := by decide
  refine ⟨fun j hj => h.2.2.2.2.2 j hj, fun a q1 q2 => ?_⟩
  obtain ⟨p, p1, p2, p3⟩ := kd (a - m) (by omega) (by omega)
  have := (h.2.2.2.1 p p1).2.2
  rw [p2, show m + (a - m) = a by omega] at this
  rw [this]
  show _ = List.replicate _ 0
  rw [p3]
