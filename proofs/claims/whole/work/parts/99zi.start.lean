/-! the start: the class's object -/
def g0 (N : Nat) : Gh := (N, 0, (fun _ => 0), (fun _ _ => 0), (fun _ _ => 0), (fun _ => []), (fun _ => 0), (fun _ => []), (fun _ => 0), (fun _ => []), (fun _ => []))
theorem abs_g0 {N eA : Nat} (h : eA < N) : Abs (h00 N eA) (g0 N) := by
  have z : ∀ (a c : Nat), qk (g0 N) a = c + 1 → False := fun a c q => by
    have q : 0 = c + 1 := q
    omega
  refine ⟨fun _ => 0, ⟨rfl, rfl, fun a q => absurd rfl q⟩, fun a c k q => (z a c q).elim, fun a c k q => (z a c q).elim, fun b q => (z b 4 q).elim, fun b q => (z b 2 q).elim, fun a q => q.elim (fun q => (z a 20 q).elim) (fun q => (z a 21 q).elim), fun a q => (z a 22 q).elim, ⟨eA, rfl, if_pos rfl, rfl, h⟩⟩
def V00 : VC := (([], [], [], 0, 0, 0), [], (0, 0, 0, 0, 0, 0, []), (0, 0, 0, 0, 0), (0, 0, 0, [], []), ([], [], []))
/-- what lies there: kinds K, references R, rows of 16 at C; all else is empty -/
def Lay (N j s : Nat) (K : List (Nat × Nat)) (R : List (Nat × Nat × Nat)) (C : List Nat) (g : Gh) : Prop := (qn g = N + j ∧ qs g = s) ∧ (∀ p, p ∈ K → p.1 < j ∧ qk g (N + p.1) = p.2) ∧ (∀ a, N + j ≤ a → qk g a = 0) ∧ (∀ p, p ∈ R → p.2.1 < j ∧ qr g p.1 (N + p.2.1) = N + p.2.2) ∧ (∀ c, c ∈ C → c < j ∧ qC g (N + c) = 16) ∧ (∀ a, qB g a = []) ∧ (∀ a, qL g a = []) ∧ (∀ a, qE g a = 0) ∧ ∀ f a, qi g f a = 0
section
variable {N j s : Nat} {K : List (Nat × Nat)} {R : List (Nat × Nat × Nat)} {C : List Nat} {g : Gh} {α : Type} {Q : α → Gh → Prop}
theorem ly_B {k : Nat → M α} (h : Lay N j s K R C g) (hx : ∀ g', Lay N (j + 2) (s + 18) ((j, 5) :: (j + 1, 0) :: K) R (j :: C) g' → ok (k (N + j)) g' Q) : ok (bd (nw 4 2) (fun y => bd (X1_init y) (fun _ => k y))) g Q := by
  obtain ⟨⟨h1, h1'⟩, h2, h3, h4, h5, h6, h7, h8, h9⟩ := h
  refine ok_newB ?_
  rw [h1]
  refine hx _ ⟨⟨by rw [p_qn_wNB, h1]; omega, by rw [p_qs_wNB, h1']⟩, fun p hp => ?_, fun a ha => ?_, fun p hp => ?_, fun c hc => ?_, fun a => ?_, h7, h8, h9⟩
  · rw [p_qk_wNB, h1]
    rcases List.mem_cons.mp hp with q | hp
    · subst q
      exact ⟨by show j < j + 2; omega, vu_eq⟩
    · rcases List.mem_cons.mp hp with q | hp
      · subst q
        exact ⟨by show j + 1 < j + 2; omega, (vu_ne (by show N + (j + 1) ≠ N + j; omega)).trans (h3 _ (by show N + j ≤ N + (j + 1); omega))⟩
      · have := h2 p hp
        exact ⟨by omega, (vu_ne (by omega)).trans this.2⟩
  · rw [p_qk_wNB, h1]
    exact (vu_ne (by omega)).trans (h3 a (by omega))
  · have := h4 p hp
    exact ⟨by omega, this.2⟩
  · rw [p_qC_wNB, h1]
    rcases List.mem_cons.mp hc with q | hc
    · subst q
      exact ⟨by omega, vu_eq⟩
    · have := h5 c hc
      exact ⟨by omega, (vu_ne (by omega)).trans this.2⟩
  · rw [p_qB_wNB, vup]
    split
    · rfl
    · exact h6 a
theorem ly_L {k : Nat → M α} (h : Lay N j s K R C g) (hx : ∀ g', Lay N (j + 1) (s + 3) ((j, 3) :: K) R C g' → ok (k (N + j)) g' Q) : ok (bd (nw 2 3) (fun y => bd (Jx4a65c_init_da8c8 y) (fun _ => k y))) g Q := by
  obtain ⟨⟨h1, h1'⟩, h2, h3, h4, h5, h6, h7, h8, h9⟩ := h
  refine ok_newL ?_
  rw [h1]
  refine hx _ ⟨⟨by rw [p_qn_wNL, h1]; omega, by rw [p_qs_wNL, h1']⟩, fun p hp => ?_, fun a ha => ?_, fun p hp => ?_, fun c hc => ?_, h6, fun a => ?_, fun a => ?_, h9⟩
  · rw [p_qk_wNL, h1]
    rcases List.mem_cons.mp hp with q | hp
    · subst q
      exact ⟨by show j < j + 1; omega, vu_eq⟩
    · have := h2 p hp
      exact ⟨by omega, (vu_ne (by omega)).trans this.2⟩
  · rw [p_qk_wNL, h1]
    exact (vu_ne (by omega)).trans (h3 a (by omega))
  · have := h4 p hp
    exact ⟨by omega, this.2⟩
  · have := h5 c hc
    exact ⟨by omega, this.2⟩
  · rw [p_qL_wNL, vup]
    split
    · rfl
    · exact h7 a
  · rw [p_qE_wNL, vup]
    split
    · rfl
    · exact h8 a
theorem ly_O {c M' : Nat} {k : Nat → M α} (hc : 3 ≤ c ∧ c ≤ 12 ∧ c ≠ 4) (h : Lay N j s K R C g) (hx : ∀ g', Lay N (j + 1) (s + M') ((j, c + 1) :: K) R C g' → ok (k (N + j)) g' Q) : ok (bd (nw c M') k) g Q := by
  obtain ⟨⟨h1, h1'⟩, h2, h3, h4, h5, h6, h7, h8, h9⟩ := h
  refine ok_nw hc ?_
  rw [h1]
  refine hx _ ⟨⟨by rw [p_qn_wO, h1]; omega, by rw [p_qs_wO, h1']⟩, fun p hp => ?_, fun a ha => ?_, fun p hp => ?_, fun c hc => ?_, h6, h7, h8, fun f a => ?_⟩
  · rw [p_qk_wO, h1]
    rcases List.mem_cons.mp hp with q | hp
    · subst q
      exact ⟨by show j < j + 1; omega, vu_eq⟩
    · have := h2 p hp
      exact ⟨by omega, (vu_ne (by omega)).trans this.2⟩
  · rw [p_qk_wO, h1]
    exact (vu_ne (by omega)).trans (h3 a (by omega))
  · have := h4 p hp
    rw [p_qr_wO, h1]
    exact ⟨by omega, (if_neg (by omega)).trans this.2⟩
  · have := h5 c hc
    exact ⟨by omega, this.2⟩
  · rw [p_qi_wO]
    show (if f / 100 = c ∧ a = qn g then 0 else qi g f a) = 0
    split
    · rfl
    · exact h9 f a
theorem ly_R {c n o b : Nat} {k : Unit → M α} (h : Lay N j s K R C g) (hk : (o, c + 1) ∈ K) (hr : ∀ p, p ∈ R → ¬ (p.1 = 100 * c + n ∧ p.2.1 = o)) (hd : gRk c n = true) (hx : ∀ g', Lay N j s K ((100 * c + n, o, b) :: R) C g' → ok (k ()) g' Q) : ok (bd (pV c n (N + o) (.ref (N + b))) k) g Q := by
  obtain ⟨⟨h1, h1'⟩, h2, h3, h4, h5, h6, h7, h8, h9⟩ := h
  refine ok_pR (h2 _ hk).2 (hx _ ⟨⟨h1, h1'⟩, h2, h3, fun p hp => ?_, h5, h6, h7, h8, h9⟩) hd
  rw [p_qr_wR]
  rcases List.mem_cons.mp hp with q | hp
  · subst q
    exact ⟨(h2 _ hk).1, u2_eq⟩
  · have := h4 p hp
    have := hr p hp
    exact ⟨by omega, (u2_ne (by omega)).trans (h4 p hp).2⟩
theorem ly_gR {c n o b : Nat} {k : Nat → M α} (hN : 0 < N) (h : Lay N j s K R C g) (hk : (o, c + 1) ∈ K) (hr : (100 * c + n, o, b) ∈ R) (hd : gRk c n = true) (hx : ok (k (N + b)) g Q) : ok (bd (gR c n (N + o)) k) g Q := ok_gR (h.2.1 _ hk).2 (h.2.2.2.1 _ hr).2 (by omega) hx hd
theorem ly_0 : Lay N 0 0 [] [] [] (g0 N) := ⟨⟨rfl, rfl⟩, fun p hp => (by cases hp), fun a ha => rfl, fun p hp => (by cases hp), fun c hc => (by cases hc), fun _ => rfl, fun _ => rfl, fun _ => rfl, fun _ _ => rfl⟩
end
