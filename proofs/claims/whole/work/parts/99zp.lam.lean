/-! room: what the files' rows may cost -/
/-- how far a data file's row is below twice its bytes, twice -/
def lam1 (f : AF) : Nat := if f.2.1 = 0 then 2 * (2 * f.2.2.1.length - f.2.2.2.1) else 0
def Lam : List AF → Nat
  | [] => 0
  | f :: fs => lam1 f + Lam fs
theorem lam_app2 : ∀ a b : List AF, Lam (a ++ b) = Lam a + Lam b
  | [], b => by show Lam b = 0 + Lam b; omega
  | f :: a, b => by
    have := lam_app2 a b
    show lam1 f + Lam (a ++ b) = lam1 f + Lam a + Lam b
    omega
theorem lam_sub {a b : List AF} (h : a.Sublist b) : Lam a ≤ Lam b := by
  induction h with
  | slnil => exact Nat.le_refl _
  | cons f _ ih => exact Nat.le_trans ih (Nat.le_add_left _ _)
  | cons_cons f _ ih => exact Nat.add_le_add_left ih _
theorem lam_map {φ : AF → AF} (h : ∀ f, lam1 (φ f) ≤ lam1 f) : ∀ fs : List AF, Lam (fs.map φ) ≤ Lam fs
  | [] => Nat.le_refl _
  | f :: fs => Nat.add_le_add (h f) (lam_map h fs)
theorem lam1_cut {f f' : AF} (h1 : f'.2.1 = f.2.1) (h2 : f'.2.2.1.length ≤ f.2.2.1.length) (h3 : f'.2.2.2.1 = f.2.2.2.1) : lam1 f' ≤ lam1 f := by
  unfold lam1
  rw [h1, h3]
  split
  · omega
  · omega
theorem take_at {α : Type} {fs : List α} {p : Nat} {f : α} (h : fs[p]? = some f) : fs = fs.take p ++ f :: fs.drop (p + 1) := by
  obtain ⟨hp, hd⟩ := List.getElem?_eq_some_iff.mp h
  rw [← hd, ← List.drop_eq_getElem_cons hp, List.take_append_drop]
theorem lam_set {fs : List AF} {p : Nat} {f f' : AF} (h : fs[p]? = some f) : Lam (fs.set p f') + lam1 f = Lam fs + lam1 f' := by
  have e := congrArg Lam (take_at h)
  rw [lam_app2] at e
  rw [set_split h, lam_app2]
  have e2 : Lam (f :: fs.drop (p + 1)) = lam1 f + Lam (fs.drop (p + 1)) := rfl
  show Lam (fs.take p) + (lam1 f' + Lam (fs.drop (p + 1))) + lam1 f = _
  omega
theorem lam_ins {fs : List AF} {p : Nat} {f : AF} : Lam (insF p f fs) = Lam fs + lam1 f := by
  have e := congrArg Lam (List.take_append_drop p fs)
  rw [lam_app2] at e
  unfold insF
  rw [lam_app2]
  show Lam (fs.take p) + (lam1 f + Lam (fs.drop p)) = _
  omega
theorem gcap_ge (c m : Nat) : m ≤ gcap c m ∧ c ≤ gcap c m := by
  unfold gcap
  split
  · omega
  · omega
/-- bytes that come to a data file -/
theorem lam_app0 (a : Int32) (part : List Int32) (fs : List AF) (sv : List Nat) : (appF a 0 part fs sv).2.2 + Lam (appF a 0 part fs sv).1 ≤ Lam fs + 4 * part.length := by
  have one : ∀ (L s n : Nat), grw L (s + n) + 2 * (2 * (s + n) - gcap L (s + n)) ≤ 2 * (2 * s - L) + 4 * n := by
    intro L s n
    unfold grw gcap
    split <;> omega
  unfold appF
  cases hf : (fs[plF a 0 fs]?).filter (isF a 0) with
  | some f =>
    obtain ⟨h1, h2⟩ := Option.filter_eq_some_iff.mp hf
    have hk : f.2.1 = 0 := (of_decide_eq_true h2).2
    have e := lam_set (f' := upF part f) h1
    have l1 : lam1 f = 2 * (2 * f.2.2.1.length - f.2.2.2.1) := if_pos hk
    have l2 : lam1 (upF part f) = 2 * (2 * (f.2.2.1.length + part.length) - gcap f.2.2.2.1 (f.2.2.1.length + part.length)) := by
      unfold lam1 upF
      rw [if_pos hk, List.length_append]
    have := one f.2.2.2.1 f.2.2.1.length part.length
    show grw f.2.2.2.1 (f.2.2.1.length + part.length) + Lam (fs.set (plF a 0 fs) (upF part f)) ≤ _
    omega
  | none =>
    have l2 : lam1 (upF part (a, 0, [], lastC sv, 0)) = 2 * (2 * part.length - gcap (lastC sv) part.length) := by
      unfold lam1 upF
      rw [if_pos rfl]
      rfl
    have := one (lastC sv) 0 part.length
    have e := lam_ins (fs := fs) (p := plF a 0 fs) (f := upF part (a, 0, [], lastC sv, 0))
    show grw (lastC sv) part.length + Lam (insF (plF a 0 fs) (upF part (a, 0, [], lastC sv, 0)) fs) ≤ _
    rw [Nat.zero_add] at this
    omega
/-- a hint, a mark -/
theorem lam_app1 {a b : Int32} {part : List Int32} {fs : List AF} {sv : List Nat} (hb : ¬ b = 0) (hn : fndF a b fs = none) : (appF a b part fs sv).2.2 + Lam (appF a b part fs sv).1 ≤ Lam fs + 2 * part.length := by
  unfold appF
  unfold fndF at hn
  rw [hn]
  have l2 : lam1 (upF part (a, b, [], lastC sv, 0)) = 0 := if_neg hb
  have e := lam_ins (fs := fs) (p := plF a b fs) (f := upF part (a, b, [], lastC sv, 0))
  show grw (lastC sv) part.length + Lam (insF (plF a b fs) (upF part (a, b, [], lastC sv, 0)) fs) ≤ _
  have : grw (lastC sv) part.length ≤ 2 * part.length := by
    unfold grw gcap
    split
    · omega
    · omega
  omega
theorem lam_dis (a b : Int32) (D : VD) : Lam (vDis a b D).1 ≤ Lam D.1 := by
  unfold vDis
  split
  · exact lam_sub (List.eraseIdx_sublist _ _)
  · exact Nat.le_refl _
theorem lam_settle (V : VC) : Lam (sSettle V).1.1 ≤ Lam V.1.1 := lam_map (φ := ph0) (fun f => lam1_cut rfl (Nat.le_refl _) rfl) V.1.1
theorem lam_los : ∀ (l : List AV) (left : Nat) (fs : List AF), Lam (losR left l fs) ≤ Lam fs
  | [], _, _ => by unfold losR; exact Nat.le_refl _
  | w :: l, left, fs => by
    unfold losR
    split
    · exact Nat.le_refl _
    · refine Nat.le_trans (lam_los l _ _) (lam_map (fun f => ?_) fs)
      split
      · refine lam1_cut rfl ?_ rfl
        show (cut1 _ f.2.2.1).length ≤ _
        unfold cut1
        first
          | exact List.length_take_le _ _
          | (split <;> simp)
      · exact Nat.le_refl _
theorem lam_crash (x : Int32) (V : VC) : (sCrash x V).2.2 = 0 ∧ Lam (sCrash x V).2.1.1.1 ≤ Lam V.1.1 := by
  unfold sCrash
  split
  · exact ⟨rfl, Nat.le_refl _⟩
  · split
    · exact ⟨rfl, Nat.le_refl _⟩
    · refine ⟨rfl, ?_⟩
      refine Nat.le_trans (lam_settle (losV (funs 0 V.1.1 - x).toNatClampNeg V)) ?_
      exact Nat.le_trans (lam_sub List.filter_sublist) (lam_los _ _ _)
theorem lam_opDis (a b : Int32) (V : VC) : Lam (opDis a b V).1.1 ≤ Lam V.1.1 := by
  unfold opDis
  split
  · exact lam_dis a b V.1
  · exact Nat.le_refl _
theorem lam_opN (l : List Int32) : ∀ (m i : Nat) (V : VC), Lam (opN l m i V).1.1 ≤ Lam V.1.1
  | 0, _, _ => Nat.le_refl _
  | m + 1, i, V => Nat.le_trans (lam_opN l m (i + 4) _) (Nat.le_trans (lam_opDis _ _ _) (lam_opDis _ _ _))
theorem lam_obM : ∀ (t : Nat) (V : VC), Lam (obM t V).1.1 ≤ Lam V.1.1
  | 0, _ => Nat.le_refl _
  | t + 1, V => by
    unfold obM
    split
    · exact Nat.le_refl _
    · rename_i f _
      cases hg : gmk f.2.2.1 with
      | true => exact Nat.le_trans (lam_obM t _) (Nat.le_trans (lam_opDis _ _ _) (lam_opN _ _ _ _))
      | false => exact Nat.le_trans (lam_obM t _) (lam_opDis _ _ _)
theorem lam_dlH : ∀ (i : Nat) (V : VC), Lam (dlH i V).1.1 ≤ Lam V.1.1
  | 0, _ => Nat.le_refl _
  | i + 1, V => by
    unfold dlH
    split
    · exact lam_dlH i V
    · split
      · exact Nat.le_trans (lam_dlH i _) (lam_opDis _ _ _)
      · exact lam_dlH i V
theorem rh_disk (l : List Int32) (a : Int32) (en : Nat) : ∀ (m i : Nat) (V : VC), (rhL l a en m i V).1 = V.1
  | 0, _, _ => rfl
  | m + 1, i, V => by
    unfold rhL
    split
    · rfl
    · exact rh_disk l a en m _ _
theorem rr_disk (l : List Int32) (a : Int32) : ∀ (m i : Nat) (V : VC), (rrL l a m i V).2.1 = V.1
  | 0, _, _ => rfl
  | m + 1, i, V => by
    unfold rrL
    split
    · rfl
    · exact rr_disk l a m _ _
theorem lam_cutP (p i : Nat) (fs : List AF) : Lam (cutP p i fs) ≤ Lam fs := by
  unfold cutP
  split
  · rename_i f hf
    have := lam_set (f' := (f.1, f.2.1, f.2.2.1.take i, f.2.2.2.1, f.2.2.2.2)) hf
    have h2 : lam1 (f.1, f.2.1, f.2.2.1.take i, f.2.2.2.1, f.2.2.2.2) ≤ lam1 f := lam1_cut rfl (by show (f.2.2.1.take i).length ≤ _; rw [List.length_take]; omega) rfl
    omega
  · exact Nat.le_refl _
theorem lam_rrE (p : Nat) (a : Int32) (len i : Nat) (V : VC) : Lam (rrE p a len i V).1.1 ≤ Lam V.1.1 := by
  unfold rrE
  cases i with
  | zero => exact Nat.le_trans (lam_opDis _ _ _) (lam_cutP p 0 V.1.1)
  | succ i => exact lam_cutP p (i + 1) V.1.1
theorem lam_rdV (p : Nat) (f : AF) (V : VC) : Lam (rdV p f V).2.1.1 ≤ Lam V.1.1 := by
  refine Nat.le_trans (lam_rrE _ _ _ _ _) ?_
  rw [rr_disk]
  exact Nat.le_refl _
theorem lam_rdF : ∀ (t i : Nat) (V : VC), Lam (rdF t i V).1.1 ≤ Lam V.1.1
  | 0, _, _ => Nat.le_refl _
  | t + 1, i, V => by
    unfold rdF
    split
    · exact Nat.le_refl _
    · split
      · exact lam_rdF t (i + 1) V
      · split
        · refine Nat.le_trans (lam_rdF t (i + 1) _) ?_
          rw [rh_disk]
          exact Nat.le_refl _
        · exact Nat.le_trans (lam_rdF t _ _) (Nat.le_trans (lam_rdV _ _ _) (lam_opDis _ _ _))
theorem lam_open (V : VC) : (sOpen V).2.2 = 0 ∧ Lam (sOpen V).2.1.1.1 ≤ Lam V.1.1 := by
  unfold sOpen
  split
  · refine ⟨rfl, ?_⟩
    show Lam (oD V).1.1 ≤ _
    unfold oD
    refine Nat.le_trans (lam_rdF _ _ _) ?_
    unfold oC
    refine Nat.le_trans (lam_dlH _ _) ?_
    unfold oB
    exact lam_obM _ (oA V)
  · exact ⟨rfl, Nat.le_refl _⟩
theorem lam_patF (p i : Nat) (v : Int32) (fs : List AF) : Lam (patF p i v fs) ≤ Lam fs := by
  unfold patF
  split
  · rename_i f hf
    have := lam_set (f' := (f.1, f.2.1, f.2.2.1.set i (b8 v), f.2.2.2.1, f.2.2.2.2)) hf
    have h2 : lam1 (f.1, f.2.1, f.2.2.1.set i (b8 v), f.2.2.2.1, f.2.2.2.2) ≤ lam1 f := lam1_cut rfl (by show (f.2.2.1.set i (b8 v)).length ≤ _; rw [List.length_set]; exact Nat.le_refl _) rfl
    omega
  · exact Nat.le_refl _
