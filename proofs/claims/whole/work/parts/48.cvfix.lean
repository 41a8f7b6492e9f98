section
variable {n : Nat} {g g' : Gh} {α : Type} {Q : α → Gh → Prop}
theorem cv_wB1 {l : List Int32} (h : CI n g) (hz : ∀ a, qk g a ≠ 0 → a < qn g) (h16 : 16 ≤ qC g (n + 1)) (h5 : l.length ≤ 500) : Cp n g (wB g (n + 1) l) 0 ∧ CV n (wB g (n + 1) l) = (vD n g, RV n g, vM n g, vO n g, ((vK n g).1, (vK n g).2.1, (vK n g).2.2.1, l, (vK n g).2.2.2.2), vT n g) := by
  obtain ⟨a1, a2, a3, _⟩ := lift_F (k := 1) h hz (by unfold fixA; omega) (fra_wB (l := l) rfl) (acc_wB (by omega) h16 (Or.inr (Or.inr h5)))
  refine ⟨a1, ?_⟩
  unfold CV
  rw [a2, a3]
  unfold vM vO vK vT
  simp only [p_qB_wB, p_qi_wB, vup]
  simp
theorem cv_wX1 {l : List Int32} (h : CI n g) (hz : ∀ a, qk g a ≠ 0 → a < qn g) : Cp n g (wX g (n + 1) l) 0 ∧ CV n (wX g (n + 1) l) = (vD n g, RV n g, vM n g, vO n g, ((vK n g).1, (vK n g).2.1, (vK n g).2.2.1, l, (vK n g).2.2.2.2), vT n g) := by
  obtain ⟨a1, a2, a3, _⟩ := lift_F (k := 1) h hz (by unfold fixA; omega) (fra_wX (l := l) rfl) acc_wX
  refine ⟨a1, ?_⟩
  unfold CV
  rw [a2, a3]
  unfold vM vO vK vT
  simp only [p_qB_wX, p_qi_wX, vup]
  simp
theorem cv_wB3 {l : List Int32} (h : CI n g) (hz : ∀ a, qk g a ≠ 0 → a < qn g) (h16 : 16 ≤ qC g (n + 3)) (h5 : l.length ≤ 500) : Cp n g (wB g (n + 3) l) 0 ∧ CV n (wB g (n + 3) l) = (vD n g, RV n g, vM n g, vO n g, vK n g, (l, (vT n g).2)) := by
  obtain ⟨a1, a2, a3, _⟩ := lift_F (k := 3) h hz (by unfold fixA; omega) (fra_wB (l := l) rfl) (acc_wB (by omega) h16 (Or.inr (Or.inr h5)))
  refine ⟨a1, ?_⟩
  unfold CV
  rw [a2, a3]
  unfold vM vO vK vT
  simp only [p_qB_wB, p_qi_wB, vup]
  simp
theorem cv_wX3 {l : List Int32} (h : CI n g) (hz : ∀ a, qk g a ≠ 0 → a < qn g) : Cp n g (wX g (n + 3) l) 0 ∧ CV n (wX g (n + 3) l) = (vD n g, RV n g, vM n g, vO n g, vK n g, (l, (vT n g).2)) := by
  obtain ⟨a1, a2, a3, _⟩ := lift_F (k := 3) h hz (by unfold fixA; omega) (fra_wX (l := l) rfl) acc_wX
  refine ⟨a1, ?_⟩
  unfold CV
  rw [a2, a3]
  unfold vM vO vK vT
  simp only [p_qB_wX, p_qi_wX, vup]
  simp
theorem cv_wB5 {l : List Int32} (h : CI n g) (hz : ∀ a, qk g a ≠ 0 → a < qn g) (h16 : 16 ≤ qC g (n + 5)) (h5 : l.length ≤ 500) : Cp n g (wB g (n + 5) l) 0 ∧ CV n (wB g (n + 5) l) = (vD n g, RV n g, vM n g, vO n g, ((vK n g).1, (vK n g).2.1, (vK n g).2.2.1, (vK n g).2.2.2.1, l), vT n g) := by
  obtain ⟨a1, a2, a3, _⟩ := lift_F (k := 5) h hz (by unfold fixA; omega) (fra_wB (l := l) rfl) (acc_wB (by omega) h16 (Or.inr (Or.inr h5)))
  refine ⟨a1, ?_⟩
  unfold CV
  rw [a2, a3]
  unfold vM vO vK vT
  simp only [p_qB_wB, p_qi_wB, vup]
  simp
theorem cv_wX5 {l : List Int32} (h : CI n g) (hz : ∀ a, qk g a ≠ 0 → a < qn g) : Cp n g (wX g (n + 5) l) 0 ∧ CV n (wX g (n + 5) l) = (vD n g, RV n g, vM n g, vO n g, ((vK n g).1, (vK n g).2.1, (vK n g).2.2.1, (vK n g).2.2.2.1, l), vT n g) := by
  obtain ⟨a1, a2, a3, _⟩ := lift_F (k := 5) h hz (by unfold fixA; omega) (fra_wX (l := l) rfl) acc_wX
  refine ⟨a1, ?_⟩
  unfold CV
  rw [a2, a3]
  unfold vM vO vK vT
  simp only [p_qB_wX, p_qi_wX, vup]
  simp
theorem cv_wB7 {l : List Int32} (h : CI n g) (hz : ∀ a, qk g a ≠ 0 → a < qn g) (h16 : 16 ≤ qC g (n + 7)) (h5 : l.length ≤ 500) : Cp n g (wB g (n + 7) l) 0 ∧ CV n (wB g (n + 7) l) = (vD n g, RV n g, vM n g, vO n g, vK n g, ((vT n g).1, l, (vT n g).2.2)) := by
  obtain ⟨a1, a2, a3, _⟩ := lift_F (k := 7) h hz (by unfold fixA; omega) (fra_wB (l := l) rfl) (acc_wB (by omega) h16 (Or.inr (Or.inr h5)))
  refine ⟨a1, ?_⟩
  unfold CV
  rw [a2, a3]
  unfold vM vO vK vT
  simp only [p_qB_wB, p_qi_wB, vup]
  simp
theorem cv_wX7 {l : List Int32} (h : CI n g) (hz : ∀ a, qk g a ≠ 0 → a < qn g) : Cp n g (wX g (n + 7) l) 0 ∧ CV n (wX g (n + 7) l) = (vD n g, RV n g, vM n g, vO n g, vK n g, ((vT n g).1, l, (vT n g).2.2)) := by
  obtain ⟨a1, a2, a3, _⟩ := lift_F (k := 7) h hz (by unfold fixA; omega) (fra_wX (l := l) rfl) acc_wX
  refine ⟨a1, ?_⟩
  unfold CV
  rw [a2, a3]
  unfold vM vO vK vT
  simp only [p_qB_wX, p_qi_wX, vup]
  simp
theorem cv_wB17 {l : List Int32} (h : CI n g) (hz : ∀ a, qk g a ≠ 0 → a < qn g) (h16 : 16 ≤ qC g (n + 17)) : Cp n g (wB g (n + 17) l) 0 ∧ CV n (wB g (n + 17) l) = (vD n g, RV n g, ((vM n g).1, (vM n g).2.1, (vM n g).2.2.1, (vM n g).2.2.2.1, (vM n g).2.2.2.2.1, (vM n g).2.2.2.2.2.1, l), vO n g, vK n g, vT n g) := by
  obtain ⟨a1, a2, a3, _⟩ := lift_F (k := 17) h hz (by unfold fixA; omega) (fra_wB (l := l) rfl) (acc_wB (by omega) h16 (by omega))
  refine ⟨a1, ?_⟩
  unfold CV
  rw [a2, a3]
  unfold vM vO vK vT
  simp only [p_qB_wB, p_qi_wB, vup]
  simp
theorem cv_wX17 {l : List Int32} (h : CI n g) (hz : ∀ a, qk g a ≠ 0 → a < qn g) : Cp n g (wX g (n + 17) l) 0 ∧ CV n (wX g (n + 17) l) = (vD n g, RV n g, ((vM n g).1, (vM n g).2.1, (vM n g).2.2.1, (vM n g).2.2.2.1, (vM n g).2.2.2.2.1, (vM n g).2.2.2.2.2.1, l), vO n g, vK n g, vT n g) := by
  obtain ⟨a1, a2, a3, _⟩ := lift_F (k := 17) h hz (by unfold fixA; omega) (fra_wX (l := l) rfl) acc_wX
  refine ⟨a1, ?_⟩
  unfold CV
  rw [a2, a3]
  unfold vM vO vK vT
  simp only [p_qB_wX, p_qi_wX, vup]
  simp
theorem cv_wB19 {l : List Int32} (h : CI n g) (hz : ∀ a, qk g a ≠ 0 → a < qn g) (h16 : 16 ≤ qC g (n + 19)) : Cp n g (wB g (n + 19) l) 0 ∧ CV n (wB g (n + 19) l) = (vD n g, RV n g, vM n g, vO n g, vK n g, ((vT n g).1, (vT n g).2.1, l)) := by
  obtain ⟨a1, a2, a3, _⟩ := lift_F (k := 19) h hz (by unfold fixA; omega) (fra_wB (l := l) rfl) (acc_wB (by omega) h16 (by omega))
  refine ⟨a1, ?_⟩
  unfold CV
  rw [a2, a3]
  unfold vM vO vK vT
  simp only [p_qB_wB, p_qi_wB, vup]
  simp
theorem cv_wX19 {l : List Int32} (h : CI n g) (hz : ∀ a, qk g a ≠ 0 → a < qn g) : Cp n g (wX g (n + 19) l) 0 ∧ CV n (wX g (n + 19) l) = (vD n g, RV n g, vM n g, vO n g, vK n g, ((vT n g).1, (vT n g).2.1, l)) := by
  obtain ⟨a1, a2, a3, _⟩ := lift_F (k := 19) h hz (by unfold fixA; omega) (fra_wX (l := l) rfl) acc_wX
  refine ⟨a1, ?_⟩
  unfold CV
  rw [a2, a3]
  unfold vM vO vK vT
  simp only [p_qB_wX, p_qi_wX, vup]
  simp
theorem cv_i1108 {x : Int32} (h : CI n g) (hz : ∀ a, qk g a ≠ 0 → a < qn g) : Cp n g (wI g 1108 n x) 0 ∧ CV n (wI g 1108 n x) = (vD n g, RV n g, vM n g, vO n g, (x, (vK n g).2.1, (vK n g).2.2.1, (vK n g).2.2.2.1, (vK n g).2.2.2.2), vT n g) := by
  obtain ⟨a1, a2, a3, _⟩ := lift_F (k := 0) h hz (by unfold fixA; omega) (fra_wI (j := 1108) (a := n + 0) (v := x) rfl) acc_wI
  refine ⟨a1, ?_⟩
  unfold CV
  have a2 : vD n (wI g 1108 n x) = vD n g := a2
  have a3 : RV n (wI g 1108 n x) = RV n g := a3
  rw [a2, a3]
  unfold vM vO vK vT
  simp only [p_qB_wI, p_qi_wI, u2]
  simp
theorem cv_i1109 {x : Int32} (h : CI n g) (hz : ∀ a, qk g a ≠ 0 → a < qn g) : Cp n g (wI g 1109 n x) 0 ∧ CV n (wI g 1109 n x) = (vD n g, RV n g, vM n g, vO n g, ((vK n g).1, x, (vK n g).2.2.1, (vK n g).2.2.2.1, (vK n g).2.2.2.2), vT n g) := by
  obtain ⟨a1, a2, a3, _⟩ := lift_F (k := 0) h hz (by unfold fixA; omega) (fra_wI (j := 1109) (a := n + 0) (v := x) rfl) acc_wI
  refine ⟨a1, ?_⟩
  unfold CV
  have a2 : vD n (wI g 1109 n x) = vD n g := a2
  have a3 : RV n (wI g 1109 n x) = RV n g := a3
  rw [a2, a3]
  unfold vM vO vK vT
  simp only [p_qB_wI, p_qi_wI, u2]
  simp
theorem cv_i1110 {x : Int32} (h : CI n g) (hz : ∀ a, qk g a ≠ 0 → a < qn g) : Cp n g (wI g 1110 n x) 0 ∧ CV n (wI g 1110 n x) = (vD n g, RV n g, vM n g, vO n g, ((vK n g).1, (vK n g).2.1, x, (vK n g).2.2.2.1, (vK n g).2.2.2.2), vT n g) := by
  obtain ⟨a1, a2, a3, _⟩ := lift_F (k := 0) h hz (by unfold fixA; omega) (fra_wI (j := 1110) (a := n + 0) (v := x) rfl) acc_wI
  refine ⟨a1, ?_⟩
  unfold CV
  have a2 : vD n (wI g 1110 n x) = vD n g := a2
  have a3 : RV n (wI g 1110 n x) = RV n g := a3
  rw [a2, a3]
  unfold vM vO vK vT
  simp only [p_qB_wI, p_qi_wI, u2]
  simp
theorem cv_i804 {x : Int32} (h : CI n g) (hz : ∀ a, qk g a ≠ 0 → a < qn g) : Cp n g (wI g 804 (n + 16) x) 0 ∧ CV n (wI g 804 (n + 16) x) = (vD n g, RV n g, (x, (vM n g).2.1, (vM n g).2.2.1, (vM n g).2.2.2.1, (vM n g).2.2.2.2.1, (vM n g).2.2.2.2.2.1, (vM n g).2.2.2.2.2.2), vO n g, vK n g, vT n g) := by
  obtain ⟨a1, a2, a3, _⟩ := lift_F (k := 16) h hz (by unfold fixA; omega) (fra_wI (j := 804) (a := n + 16) (v := x) rfl) acc_wI
  refine ⟨a1, ?_⟩
  unfold CV
  have a2 : vD n (wI g 804 (n + 16) x) = vD n g := a2
  have a3 : RV n (wI g 804 (n + 16) x) = RV n g := a3
  rw [a2, a3]
  unfold vM vO vK vT
  simp only [p_qB_wI, p_qi_wI, u2]
  simp
theorem cv_i805 {x : Int32} (h : CI n g) (hz : ∀ a, qk g a ≠ 0 → a < qn g) : Cp n g (wI g 805 (n + 16) x) 0 ∧ CV n (wI g 805 (n + 16) x) = (vD n g, RV n g, ((vM n g).1, x, (vM n g).2.2.1, (vM n g).2.2.2.1, (vM n g).2.2.2.2.1, (vM n g).2.2.2.2.2.1, (vM n g).2.2.2.2.2.2), vO n g, vK n g, vT n g) := by
  obtain ⟨a1, a2, a3, _⟩ := lift_F (k := 16) h hz (by unfold fixA; omega) (fra_wI (j := 805) (a := n + 16) (v := x) rfl) acc_wI
  refine ⟨a1, ?_⟩
  unfold CV
  have a2 : vD n (wI g 805 (n + 16) x) = vD n g := a2
  have a3 : RV n (wI g 805 (n + 16) x) = RV n g := a3
  rw [a2, a3]
  unfold vM vO vK vT
  simp only [p_qB_wI, p_qi_wI, u2]
  simp
theorem cv_i806 {x : Int32} (h : CI n g) (hz : ∀ a, qk g a ≠ 0 → a < qn g) : Cp n g (wI g 806 (n + 16) x) 0 ∧ CV n (wI g 806 (n + 16) x) = (vD n g, RV n g, ((vM n g).1, (vM n g).2.1, x, (vM n g).2.2.2.1, (vM n g).2.2.2.2.1, (vM n g).2.2.2.2.2.1, (vM n g).2.2.2.2.2.2), vO n g, vK n g, vT n g) := by
  obtain ⟨a1, a2, a3, _⟩ := lift_F (k := 16) h hz (by unfold fixA; omega) (fra_wI (j := 806) (a := n + 16) (v := x) rfl) acc_wI
  refine ⟨a1, ?_⟩
  unfold CV
  have a2 : vD n (wI g 806 (n + 16) x) = vD n g := a2
  have a3 : RV n (wI g 806 (n + 16) x) = RV n g := a3
  rw [a2, a3]
  unfold vM vO vK vT
  simp only [p_qB_wI, p_qi_wI, u2]
  simp
theorem cv_i807 {x : Int32} (h : CI n g) (hz : ∀ a, qk g a ≠ 0 → a < qn g) : Cp n g (wI g 807 (n + 16) x) 0 ∧ CV n (wI g 807 (n + 16) x) = (vD n g, RV n g, ((vM n g).1, (vM n g).2.1, (vM n g).2.2.1, x, (vM n g).2.2.2.2.1, (vM n g).2.2.2.2.2.1, (vM n g).2.2.2.2.2.2), vO n g, vK n g, vT n g) := by
  obtain ⟨a1, a2, a3, _⟩ := lift_F (k := 16) h hz (by unfold fixA; omega) (fra_wI (j := 807) (a := n + 16) (v := x) rfl) acc_wI
  refine ⟨a1, ?_⟩
  unfold CV
  have a2 : vD n (wI g 807 (n + 16) x) = vD n g := a2
  have a3 : RV n (wI g 807 (n + 16) x) = RV n g := a3
  rw [a2, a3]
  unfold vM vO vK vT
  simp only [p_qB_wI, p_qi_wI, u2]
  simp
theorem cv_i808 {x : Int32} (h : CI n g) (hz : ∀ a, qk g a ≠ 0 → a < qn g) : Cp n g (wI g 808 (n + 16) x) 0 ∧ CV n (wI g 808 (n + 16) x) = (vD n g, RV n g, ((vM n g).1, (vM n g).2.1, (vM n g).2.2.1, (vM n g).2.2.2.1, x, (vM n g).2.2.2.2.2.1, (vM n g).2.2.2.2.2.2), vO n g, vK n g, vT n g) := by
  obtain ⟨a1, a2, a3, _⟩ := lift_F (k := 16) h hz (by unfold fixA; omega) (fra_wI (j := 808) (a := n + 16) (v := x) rfl) acc_wI
  refine ⟨a1, ?_⟩
  unfold CV
  have a2 : vD n (wI g 808 (n + 16) x) = vD n g := a2
  have a3 : RV n (wI g 808 (n + 16) x) = RV n g := a3
  rw [a2, a3]
  unfold vM vO vK vT
  simp only [p_qB_wI, p_qi_wI, u2]
  simp
theorem cv_i809 {x : Int32} (h : CI n g) (hz : ∀ a, qk g a ≠ 0 → a < qn g) : Cp n g (wI g 809 (n + 16) x) 0 ∧ CV n (wI g 809 (n + 16) x) = (vD n g, RV n g, ((vM n g).1, (vM n g).2.1, (vM n g).2.2.1, (vM n g).2.2.2.1, (vM n g).2.2.2.2.1, x, (vM n g).2.2.2.2.2.2), vO n g, vK n g, vT n g) := by
  obtain ⟨a1, a2, a3, _⟩ := lift_F (k := 16) h hz (by unfold fixA; omega) (fra_wI (j := 809) (a := n + 16) (v := x) rfl) acc_wI
  refine ⟨a1, ?_⟩
  unfold CV
  have a2 : vD n (wI g 809 (n + 16) x) = vD n g := a2
  have a3 : RV n (wI g 809 (n + 16) x) = RV n g := a3
  rw [a2, a3]
  unfold vM vO vK vT
  simp only [p_qB_wI, p_qi_wI, u2]
  simp
theorem cv_i902 {x : Int32} (h : CI n g) (hz : ∀ a, qk g a ≠ 0 → a < qn g) : Cp n g (wI g 902 (n + 21) x) 0 ∧ CV n (wI g 902 (n + 21) x) = (vD n g, RV n g, vM n g, (x, (vO n g).2.1, (vO n g).2.2.1, (vO n g).2.2.2.1, (vO n g).2.2.2.2), vK n g, vT n g) := by
  obtain ⟨a1, a2, a3, _⟩ := lift_F (k := 21) h hz (by unfold fixA; omega) (fra_wI (j := 902) (a := n + 21) (v := x) rfl) acc_wI
  refine ⟨a1, ?_⟩
  unfold CV
  have a2 : vD n (wI g 902 (n + 21) x) = vD n g := a2
  have a3 : RV n (wI g 902 (n + 21) x) = RV n g := a3
  rw [a2, a3]
  unfold vM vO vK vT
  simp only [p_qB_wI, p_qi_wI, u2]
  simp
theorem cv_i903 {x : Int32} (h : CI n g) (hz : ∀ a, qk g a ≠ 0 → a < qn g) : Cp n g (wI g 903 (n + 21) x) 0 ∧ CV n (wI g 903 (n + 21) x) = (vD n g, RV n g, vM n g, ((vO n g).1, x, (vO n g).2.2.1, (vO n g).2.2.2.1, (vO n g).2.2.2.2), vK n g, vT n g) := by
  obtain ⟨a1, a2, a3, _⟩ := lift_F (k := 21) h hz (by unfold fixA; omega) (fra_wI (j := 903) (a := n + 21) (v := x) rfl) acc_wI
  refine ⟨a1, ?_⟩
  unfold CV
  have a2 : vD n (wI g 903 (n + 21) x) = vD n g := a2
  have a3 : RV n (wI g 903 (n + 21) x) = RV n g := a3
  rw [a2, a3]
  unfold vM vO vK vT
  simp only [p_qB_wI, p_qi_wI, u2]
  simp
theorem cv_i904 {x : Int32} (h : CI n g) (hz : ∀ a, qk g a ≠ 0 → a < qn g) : Cp n g (wI g 904 (n + 21) x) 0 ∧ CV n (wI g 904 (n + 21) x) = (vD n g, RV n g, vM n g, ((vO n g).1, (vO n g).2.1, x, (vO n g).2.2.2.1, (vO n g).2.2.2.2), vK n g, vT n g) := by
  obtain ⟨a1, a2, a3, _⟩ := lift_F (k := 21) h hz (by unfold fixA; omega) (fra_wI (j := 904) (a := n + 21) (v := x) rfl) acc_wI
  refine ⟨a1, ?_⟩
  unfold CV
  have a2 : vD n (wI g 904 (n + 21) x) = vD n g := a2
  have a3 : RV n (wI g 904 (n + 21) x) = RV n g := a3
  rw [a2, a3]
  unfold vM vO vK vT
  simp only [p_qB_wI, p_qi_wI, u2]
  simp
theorem cv_i905 {x : Int32} (h : CI n g) (hz : ∀ a, qk g a ≠ 0 → a < qn g) : Cp n g (wI g 905 (n + 21) x) 0 ∧ CV n (wI g 905 (n + 21) x) = (vD n g, RV n g, vM n g, ((vO n g).1, (vO n g).2.1, (vO n g).2.2.1, x, (vO n g).2.2.2.2), vK n g, vT n g) := by
  obtain ⟨a1, a2, a3, _⟩ := lift_F (k := 21) h hz (by unfold fixA; omega) (fra_wI (j := 905) (a := n + 21) (v := x) rfl) acc_wI
  refine ⟨a1, ?_⟩
  unfold CV
  have a2 : vD n (wI g 905 (n + 21) x) = vD n g := a2
  have a3 : RV n (wI g 905 (n + 21) x) = RV n g := a3
  rw [a2, a3]
  unfold vM vO vK vT
  simp only [p_qB_wI, p_qi_wI, u2]
  simp
theorem cv_i906 {x : Int32} (h : CI n g) (hz : ∀ a, qk g a ≠ 0 → a < qn g) : Cp n g (wI g 906 (n + 21) x) 0 ∧ CV n (wI g 906 (n + 21) x) = (vD n g, RV n g, vM n g, ((vO n g).1, (vO n g).2.1, (vO n g).2.2.1, (vO n g).2.2.2.1, x), vK n g, vT n g) := by
  obtain ⟨a1, a2, a3, _⟩ := lift_F (k := 21) h hz (by unfold fixA; omega) (fra_wI (j := 906) (a := n + 21) (v := x) rfl) acc_wI
  refine ⟨a1, ?_⟩
  unfold CV
  have a2 : vD n (wI g 906 (n + 21) x) = vD n g := a2
  have a3 : RV n (wI g 906 (n + 21) x) = RV n g := a3
  rw [a2, a3]
  unfold vM vO vK vT
  simp only [p_qB_wI, p_qi_wI, u2]
  simp
end
