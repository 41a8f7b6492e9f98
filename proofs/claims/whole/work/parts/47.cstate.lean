/-! the whole object: its parts, what they show, what a call leaves -/
section
variable {n : Nat} {g g' : Gh} {α : Type} {Q : α → Gh → Prop}
def CI (n : Nat) (g : Gh) : Prop := (Cs n g ∧ DI n g ∧ AvI n g ∧ RI n g) ∧ (qk g (n + 2) = 0 ∧ qk g (n + 4) = 0 ∧ qk g (n + 6) = 0 ∧ qk g (n + 18) = 0) ∧ (qL g (n + 12)).length ≤ 2200 ∧ (qL g (n + 14)).length + (qL g (n + 15)).length ≤ 1300 ∧ (qL g (n + 10)).length + (qL g (n + 11)).length ≤ 2300
abbrev VD : Type := List AF × List Nat × List AV × Int32 × Int32 × Int32
abbrev VM : Type := Int32 × Int32 × Int32 × Int32 × Int32 × Int32 × List Int32
abbrev VO : Type := Int32 × Int32 × Int32 × Int32 × Int32
abbrev VK : Type := Int32 × Int32 × Int32 × List Int32 × List Int32
abbrev VT : Type := List Int32 × List Int32 × List Int32
abbrev VC : Type := VD × List AR × VM × VO × VK × VT
def vD (n : Nat) (g : Gh) : VD := (FV n g, SV n g, AIV n g, DSC n g)
def vM (n : Nat) (g : Gh) : VM := (qi g 804 (n + 16), qi g 805 (n + 16), qi g 806 (n + 16), qi g 807 (n + 16), qi g 808 (n + 16), qi g 809 (n + 16), qB g (n + 17))
def vO (n : Nat) (g : Gh) : VO := (qi g 902 (n + 21), qi g 903 (n + 21), qi g 904 (n + 21), qi g 905 (n + 21), qi g 906 (n + 21))
def vK (n : Nat) (g : Gh) : VK := (qi g 1108 n, qi g 1109 n, qi g 1110 n, qB g (n + 1), qB g (n + 5))
def vT (n : Nat) (g : Gh) : VT := (qB g (n + 3), qB g (n + 7), qB g (n + 19))
def CV (n : Nat) (g : Gh) : VC := (vD n g, RV n g, vM n g, vO n g, vK n g, vT n g)
def ownC (n : Nat) (g : Gh) (a : Nat) : Prop := ownD n g a ∨ ownR n g a ∨ (n ≤ a ∧ a ≤ n + 21)
def Cp (n : Nat) (g g' : Gh) (z : Nat) : Prop := fra (ownC n g) g g' ∧ acc n g g' z ∧ CI n g'
theorem ownC_eq {P : Nat → Prop} (h : fra P g g') : ∀ a, a < qn g → ownC n g' a → ownC n g a := fun a ha q => by
  rcases q with q | q | q
  · exact Or.inl (ownD_eq h a ha q)
  · exact Or.inr (Or.inl (ownR_eq h a ha q))
  · exact Or.inr (Or.inr q)
theorem cp_trans {g2 : Gh} {z z2 : Nat} (h : Cp n g g' z) (h2 : Cp n g' g2 z2) : Cp n g g2 (z + z2) := ⟨fra_trans h.1 h2.1 (ownC_eq h.1), acc_trans h.2.1 h2.2.1, h2.2.2⟩
theorem cp_trans0 {g2 : Gh} {z : Nat} (h : Cp n g g' 0) (h2 : Cp n g' g2 z) : Cp n g g2 z := by
  have := cp_trans h h2
  rw [Nat.zero_add] at this
  exact this
theorem cp_refl (h : CI n g) : Cp n g g 0 := ⟨fra_refl, acc_refl, h⟩
theorem ci_C (h : CI n g) : Cs n g := h.1.1
theorem ci_D (h : CI n g) : DI n g := h.1.2.1
theorem ci_A (h : CI n g) : AvI n g := h.1.2.2.1
theorem ci_R (h : CI n g) : RI n g := h.1.2.2.2
/-- the fixed addresses that are neither the disk's nor the directory's -/
def fixA (k : Nat) : Prop := k = 0 ∨ k = 1 ∨ k = 3 ∨ k = 5 ∨ k = 7 ∨ k = 16 ∨ k = 17 ∨ k = 19 ∨ k = 21
theorem fix_no (h : CI n g) {k : Nat} (hk : fixA k) : ¬ ownD n g (n + k) ∧ ¬ ownR n g (n + k) := by
  have hC := ci_C h
  obtain ⟨-, ⟨z2, z4, z6, z18⟩, -⟩ := h
  have c0 := cs_x hC
  have c1 := cs_tape hC
  have c3 := cs_taken hC
  have c5 := cs_found hC
  have c7 := cs_draft hC
  have c16 := cs_mg hC
  have c17 := cs_hint hC
  have c19 := cs_mark hC
  have c21 := cs_op hC
  unfold ownD ownR
  rcases hk with e | e | e | e | e | e | e | e | e <;> subst e
  · simp only [Nat.add_zero, c0]
    omega
  · simp only [c1, show n + 1 - 1 = n by omega, c0]
    omega
  · simp only [c3, show n + 3 - 1 = n + 2 by omega, z2]
    omega
  · simp only [c5, show n + 5 - 1 = n + 4 by omega, z4]
    omega
  · simp only [c7, show n + 7 - 1 = n + 6 by omega, z6]
    omega
  · simp only [c16]
    omega
  · simp only [c17, show n + 17 - 1 = n + 16 by omega, c16]
    omega
  · simp only [c19, show n + 19 - 1 = n + 18 by omega, z18]
    omega
  · simp only [c21]
    omega
theorem fix_lt (h : CI n g) (hz : ∀ a, qk g a ≠ 0 → a < qn g) : n + 21 < qn g := hz _ (by rw [cs_op (ci_C h)]; decide)
/-- the fixed part, where a call's frame leaves it -/
theorem fix_keep {P : Nat → Prop} (h : CI n g) (hz : ∀ a, qk g a ≠ 0 → a < qn g) (hf : fra P g g') (hP : ∀ k, fixA k → ¬ P (n + k)) : (vM n g', vO n g', vK n g', vT n g') = (vM n g, vO n g, vK n g, vT n g) := by
  have hl := fix_lt h hz
  have f0 := hf.2.2.2 n (by omega) (hP 0 (Or.inl rfl))
  have f1 := hf.2.2.2 (n + 1) (by omega) (hP 1 (by unfold fixA; omega))
  have f3 := hf.2.2.2 (n + 3) (by omega) (hP 3 (by unfold fixA; omega))
  have f5 := hf.2.2.2 (n + 5) (by omega) (hP 5 (by unfold fixA; omega))
  have f7 := hf.2.2.2 (n + 7) (by omega) (hP 7 (by unfold fixA; omega))
  have f16 := hf.2.2.2 (n + 16) (by omega) (hP 16 (by unfold fixA; omega))
  have f17 := hf.2.2.2 (n + 17) (by omega) (hP 17 (by unfold fixA; omega))
  have f19 := hf.2.2.2 (n + 19) (by omega) (hP 19 (by unfold fixA; omega))
  have f21 := hf.2.2.2 (n + 21) (by omega) (hP 21 (by unfold fixA; omega))
  unfold vM vO vK vT
  rw [f0.1, f0.1, f0.1, f1.2.2.1.1, f3.2.2.1.1, f5.2.2.1.1, f7.2.2.1.1, f16.1, f16.1, f16.1, f16.1, f16.1, f16.1, f17.2.2.1.1, f19.2.2.1.1, f21.1, f21.1, f21.1, f21.1, f21.1]
theorem hid_keep {P : Nat → Prop} (h : CI n g) (hz : ∀ a, qk g a ≠ 0 → a < qn g) (hf : fra P g g') : qk g' (n + 2) = 0 ∧ qk g' (n + 4) = 0 ∧ qk g' (n + 6) = 0 ∧ qk g' (n + 18) = 0 := by
  have hl := fix_lt h hz
  obtain ⟨-, ⟨z2, z4, z6, z18⟩, -⟩ := h
  exact ⟨(hf.2.1 _ (by omega)).trans z2, (hf.2.1 _ (by omega)).trans z4, (hf.2.1 _ (by omega)).trans z6, (hf.2.1 _ (by omega)).trans z18⟩
theorem lift_D {z : Nat} (h : CI n g) (hz : ∀ a, qk g a ≠ 0 → a < qn g) (hp : Dp n g g' z) (hA : AvI n g') (hb1 : (qL g' (n + 12)).length ≤ 2200) (hb2 : (qL g' (n + 10)).length + (qL g' (n + 11)).length ≤ 2300) : Cp n g g' z ∧ CV n g' = (vD n g', (CV n g).2) := by
  obtain ⟨r1, r2, r3, r4⟩ := keepR (ci_C h) (ci_R h) hp.1 hz (fun a ha q => ownDR (ci_C h) q ha)
  have f := fix_keep h hz hp.1 (fun k hk => (fix_no h hk).1)
  refine ⟨⟨fra_mono hp.1 (fun _ _ q => Or.inl q), hp.2.1, ⟨cs_fra (ci_C h) hp.1 hz, hp.2.2, hA, r1⟩, hid_keep h hz hp.1, hb1, by rw [r3, r4]; exact h.2.2.2.1, hb2⟩, ?_⟩
  unfold CV
  rw [r2, f]
theorem lift_R (h : CI n g) (hz : ∀ a, qk g a ≠ 0 → a < qn g) (hp : Rp n g g') (hb : (qL g' (n + 14)).length + (qL g' (n + 15)).length ≤ 1300) : Cp n g g' 0 ∧ CV n g' = (vD n g, RV n g', (CV n g).2.2) := by
  obtain ⟨d1, d2, d3, d4, d5, d6, ⟨d7, d8, d9, d10⟩, d11⟩ := keepD (ci_C h) (ci_D h) (ci_A h) hp.1 hz (fun a ha q => ownDR (ci_C h) ha q)
  have f := fix_keep h hz hp.1 (fun k hk => (fix_no h hk).2)
  refine ⟨⟨fra_mono hp.1 (fun _ _ q => Or.inr (Or.inl q)), hp.2.1, ⟨cs_fra (ci_C h) hp.1 hz, d1, d2, hp.2.2⟩, hid_keep h hz hp.1, by rw [d9]; exact h.2.2.1, hb, by rw [d7, d8]; exact h.2.2.2.2⟩, ?_⟩
  unfold CV vD
  rw [d3, d4, d5, d6, f]
/-- a fixed address changes -/
theorem lift_F {k z : Nat} (h : CI n g) (hz : ∀ a, qk g a ≠ 0 → a < qn g) (hk : fixA k) (hf : fra (fun a => a = n + k) g g') (hacc : acc n g g' z) : Cp n g g' z ∧ vD n g' = vD n g ∧ RV n g' = RV n g ∧ qL g' (n + 10) = qL g (n + 10) ∧ qL g' (n + 11) = qL g (n + 11) ∧ qL g' (n + 12) = qL g (n + 12) ∧ qL g' (n + 14) = qL g (n + 14) := by
  have hno := fix_no h hk
  obtain ⟨r1, r2, r3, r4⟩ := keepR (ci_C h) (ci_R h) hf hz (fun a ha q => hno.2 (q ▸ ha))
  obtain ⟨d1, d2, d3, d4, d5, d6, ⟨d7, d8, d9, d10⟩, d11⟩ := keepD (ci_C h) (ci_D h) (ci_A h) hf hz (fun a ha q => hno.1 (q ▸ ha))
  refine ⟨⟨fra_mono hf (fun a _ q => Or.inr (Or.inr ⟨by omega, ?_⟩)), hacc, ⟨cs_fra (ci_C h) hf hz, d1, d2, r1⟩, hid_keep h hz hf, by rw [d9]; exact h.2.2.1, by rw [r3, r4]; exact h.2.2.2.1, by rw [d7, d8]; exact h.2.2.2.2⟩, ?_, r2, d7, d8, d9, r3⟩
  · unfold fixA at hk
    omega
  · unfold vD
    rw [d3, d4, d5, d6]
theorem acc_wI {j a : Nat} {v : Int32} : acc n g (wI g j a v) 0 := ⟨⟨Nat.le_refl _, Nat.le_refl _⟩, fun h => h⟩
theorem acc_wX {a : Nat} {l : List Int32} : acc n g (wX g a l) 0 := ⟨⟨Nat.le_refl _, Nat.le_refl _⟩, fun h => h⟩
/-- the fixed Bytes' growth is paid by their lengths -/
theorem acc_wB {k : Nat} {l : List Int32} (hk : k = 1 ∨ k = 3 ∨ k = 5 ∨ k = 7 ∨ k = 17 ∨ k = 19) (h16 : 16 ≤ qC g (n + k)) (h5 : k = 17 ∨ k = 19 ∨ l.length ≤ 500) : acc n g (wB g (n + k) l) 0 := by
  have e3 := gcap_2 (c := qC g (n + k)) (m := l.length) h16
  have hs : qs (wB g (n + k) l) = qs g + (if l.length ≤ qC g (n + k) then 0 else gcap (qC g (n + k)) l.length) := rfl
  have hn : qn (wB g (n + k) l) = qn g + (if l.length ≤ qC g (n + k) then 0 else 1) := rfl
  have hc : qC (wB g (n + k) l) = va_up (qC g) (n + k) (gcap (qC g (n + k)) l.length) := rfl
  refine ⟨?_, fun hCE => ?_⟩
  · unfold acc2 rsum ccnt
    rw [hs, hn, hc, p_qL_wB, p_qE_wB]
    simp only [vup]
    generalize (if l.length ≤ qC g (n + k) then 0 else gcap (qC g (n + k)) l.length) = s1 at *
    generalize (if l.length ≤ qC g (n + k) then 0 else 1) = s2 at *
    rcases hk with e | e | e | e | e | e <;> subst e <;> simp <;> omega
  · have hg : k = 17 ∨ k = 19 ∨ (qC g (n + k) ≤ 1000 → gcap (qC g (n + k)) l.length ≤ 1000) := by
      rcases h5 with q | q | q
      · exact Or.inl q
      · exact Or.inr (Or.inl q)
      · refine Or.inr (Or.inr (fun z => ?_))
        unfold gcap
        split <;> omega
    unfold CE at hCE ⊢
    rw [hc, p_qL_wB, p_qE_wB]
    simp only [vup]
    generalize gcap (qC g (n + k)) l.length = s1 at *
    clear e3 hs hn hc h5
    rcases hk with e | e | e | e | e | e <;> subst e <;> simp <;> simp at hg <;> omega
end
