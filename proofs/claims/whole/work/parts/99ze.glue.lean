/-! both in one heap -/
section
variable {n m a3 : Nat} {g g1 : Gh} {S : MS} {α : Type}
theorem ok_zz {x : M α} {Q : α → Gh → Prop} (h : (∀ a, qk g a ≠ 0 → a < qn g) → ok x g Q) : ok x g Q := fun hp ha => h (fun a q => (ha.choose_spec.1.2.2 a q).2) hp ha
theorem mset_qi {j a : Nat} (h : j / 100 ≠ 12) : qi (mset g m S) j a = qi g j a := if_neg (fun q => h q.2)
theorem mset_idem {S' : MS} : mset (mset g m S) m S' = mset g m S' := by
  have e1 : (fun j a => if a = m ∧ j / 100 = 12 then S'.1 (j % 100) else (fun j a => if a = m ∧ j / 100 = 12 then S.1 (j % 100) else qi g j a) j a) = (fun j a => if a = m ∧ j / 100 = 12 then S'.1 (j % 100) else qi g j a) := by
    funext j a
    by_cases c : a = m ∧ j / 100 = 12
    · rw [if_pos c, if_pos c]
    · rw [if_neg c, if_neg c]
      exact if_neg c
  have e2 : (fun a => if m < a ∧ a ≤ m + 26 then S'.2 (a - m) else (fun a => if m < a ∧ a ≤ m + 26 then S.2 (a - m) else qA g a) a) = (fun a => if m < a ∧ a ≤ m + 26 then S'.2 (a - m) else qA g a) := by
    funext a
    by_cases c : m < a ∧ a ≤ m + 26
    · rw [if_pos c, if_pos c]
    · rw [if_neg c, if_neg c]
      exact if_neg c
  show (qn g, qs g, qk g, (fun j a => if a = m ∧ j / 100 = 12 then S'.1 (j % 100) else (fun j a => if a = m ∧ j / 100 = 12 then S.1 (j % 100) else qi g j a) j a), qr g, qB g, qC g, qL g, qE g, (fun a => if m < a ∧ a ≤ m + 26 then S'.2 (a - m) else (fun a => if m < a ∧ a ≤ m + 26 then S.2 (a - m) else qA g a) a), qW g) = _
  rw [e1, e2]
  rfl
/-- g has S as the reference's part -/
def At (m : Nat) (g : Gh) (S : MS) : Prop := (∀ j, j / 100 = 12 → qi g j m = S.1 (j % 100)) ∧ ∀ a, m < a → a ≤ m + 26 → qA g a = S.2 (a - m)
theorem at_eq (h : At m g S) : mset g m S = g := by
  have e1 : (fun j a => if a = m ∧ j / 100 = 12 then S.1 (j % 100) else qi g j a) = qi g := by
    funext j a
    by_cases c : a = m ∧ j / 100 = 12
    · rw [if_pos c, c.1, h.1 j c.2]
    · rw [if_neg c]
  have e2 : (fun a => if m < a ∧ a ≤ m + 26 then S.2 (a - m) else qA g a) = qA g := by
    funext a
    by_cases c : m < a ∧ a ≤ m + 26
    · rw [if_pos c, h.2 a c.1 c.2]
    · rw [if_neg c]
  unfold mset
  rw [e1, e2]
  rfl
theorem at_mset : At m (mset g m S) S := ⟨fun _ hj => if_pos ⟨rfl, hj⟩, fun _ h1 h2 => if_pos ⟨h1, h2⟩⟩
theorem mk_mset (h : Mk m g) : Mk m (mset g m S) := h
theorem cv_mset : CV n (mset g m S) = CV n g := by
  have q : ∀ j a, j / 100 ≠ 12 → qi (mset g m S) j a = qi g j a := fun j a h => mset_qi h
  have e1 : FV n (mset g m S) = FV n g := by
    refine List.map_congr_left (fun d _ => ?_)
    unfold fvw
    rw [q 701 d (by decide), q 702 d (by decide), q 703 d (by decide)]
    rfl
  have e2 : RV n (mset g m S) = RV n g := by
    refine List.map_congr_left (fun d _ => ?_)
    unfold rvw
    rw [q 1001 d (by decide), q 1002 d (by decide), q 1003 d (by decide), q 1004 d (by decide)]
    rfl
  have e3 : AIV n (mset g m S) = AIV n g := by
    unfold AIV acn
    rw [q 603 (n + 9) (by decide)]
    refine List.map_congr_left (fun d _ => ?_)
    unfold avw
    rw [q 701 _ (by decide), q 702 _ (by decide), q 301 _ (by decide)]
    rfl
  unfold CV vD vM vO vK vT DSC
  rw [e1, e2, e3]
  simp only [q _ _ (show 604 / 100 ≠ 12 by decide), q _ _ (show 605 / 100 ≠ 12 by decide), q _ _ (show 606 / 100 ≠ 12 by decide), q _ _ (show 804 / 100 ≠ 12 by decide), q _ _ (show 805 / 100 ≠ 12 by decide), q _ _ (show 806 / 100 ≠ 12 by decide), q _ _ (show 807 / 100 ≠ 12 by decide), q _ _ (show 808 / 100 ≠ 12 by decide), q _ _ (show 809 / 100 ≠ 12 by decide), q _ _ (show 902 / 100 ≠ 12 by decide), q _ _ (show 903 / 100 ≠ 12 by decide), q _ _ (show 904 / 100 ≠ 12 by decide), q _ _ (show 905 / 100 ≠ 12 by decide), q _ _ (show 906 / 100 ≠ 12 by decide), q _ _ (show 1108 / 100 ≠ 12 by decide), q _ _ (show 1109 / 100 ≠ 12 by decide), q _ _ (show 1110 / 100 ≠ 12 by decide)]
  rfl
theorem ci_mset (h : CI n g) : CI n (mset g m S) := by
  have q : qi (mset g m S) 603 (n + 9) = qi g 603 (n + 9) := mset_qi (by decide)
  obtain ⟨⟨h1, h2, h3, h4⟩, h5⟩ := h
  refine ⟨⟨h1, h2, ?_, h4⟩, h5⟩
  unfold AvI acn
  rw [q]
  exact h3
/-- the law's world: the class at n, the reference at m, the row of one long at a3 -/
def WS (n m a3 t : Nat) (g : Gh) (V : VC) (S : MS) (ps : List AV) : Prop := (CI n g ∧ Mk m g ∧ n + 22 ≤ m ∧ m + 27 ≤ a3 ∧ qk g a3 = 23 ∧ (qW g a3).length = 1) ∧ At m g S ∧ CV n g = V ∧ Rel t V S ps
theorem ws_own {t : Nat} {V : VC} {ps : List AV} (h : WS n m a3 t g V S ps) {a : Nat} (ha : (m ≤ a ∧ a ≤ m + 26) ∨ a = a3) : ¬ ownC n g a := by
  obtain ⟨⟨h1, ⟨k0, k1, k2, _⟩, h3, h4, h5, _⟩, _⟩ := h
  have hk : qk g a = 13 ∨ qk g a = 21 ∨ qk g a = 22 ∨ qk g a = 23 := by
    rcases ha with ha | ha
    · by_cases e : a = m
      · rw [e]
        exact Or.inl k1
      · have := k2 (a - m) (by omega) (by omega)
        rw [show m + (a - m) = a by omega] at this
        rw [this]
        unfold knd
        split
        · exact Or.inr (Or.inl rfl)
        · exact Or.inr (Or.inr (Or.inl rfl))
    · rw [ha]
      exact Or.inr (Or.inr (Or.inr h5))
  unfold ownC ownD ownR
  omega
/-- what a call of the class leaves of the rest -/
theorem ws_class {t z : Nat} {V : VC} {ps : List AV} (h : WS n m a3 t g V S ps) (hz : ∀ a, qk g a ≠ 0 → a < qn g) (hc : Cp n g g1 z) : CI n g1 ∧ Mk m g1 ∧ qk g1 a3 = 23 ∧ (qW g1 a3).length = 1 ∧ At m g1 S := by
  have hw := h
  obtain ⟨⟨h1, ⟨k0, k1, k2, k3⟩, h3, h4, h5, h6⟩, h7, _⟩ := h
  have lt : ∀ a, (m ≤ a ∧ a ≤ m + 26) ∨ a = a3 → a < qn g := by
    intro a ha
    refine hz a ?_
    rcases ha with ha | ha
    · by_cases e : a = m
      · rw [e, k1]
        decide
      · have := k2 (a - m) (by omega) (by omega)
        rw [show m + (a - m) = a by omega] at this
        rw [this]
        unfold knd
        split <;> decide
    · rw [ha, h5]
      decide
  have fr : ∀ a, (m ≤ a ∧ a ≤ m + 26) ∨ a = a3 → (∀ j, qi g1 j a = qi g j a) ∧ (∀ j, qr g1 j a = qr g j a) ∧ qA g1 a = qA g a ∧ qW g1 a = qW g a ∧ qk g1 a = qk g a := by
    intro a ha
    obtain ⟨q1, q2, _, _, q5, q6⟩ := hc.1.2.2.2 a (lt a ha) (ws_own hw ha)
    exact ⟨q1, q2, q5, q6, hc.1.2.1 a (lt a ha)⟩
  obtain ⟨m1, m2, _, _, m5⟩ := fr m (Or.inl ⟨Nat.le_refl _, by omega⟩)
  obtain ⟨_, _, _, a4, a5⟩ := fr a3 (Or.inr rfl)
  refine ⟨hc.2.2, ⟨k0, m5.trans k1, fun q q1 q2 => ?_, fun k hk => ?_⟩, a5.trans h5, by rw [a4]; exact h6, fun j hj => ?_, fun a q1 q2 => ?_⟩
  · obtain ⟨_, _, _, _, z⟩ := fr (m + q) (Or.inl ⟨by omega, by omega⟩)
    rw [z]
    exact k2 q q1 q2
  · rw [m2]
    exact k3 k hk
  · rw [m1]
    exact h7.1 j hj
  · obtain ⟨_, _, z, _⟩ := fr a (Or.inl ⟨by omega, q2⟩)
    rw [z]
    exact h7.2 a q1 q2
/-- a call of the reference, in the one heap -/
theorem to_ref {β : Type} {x : M β} {k : β → M α} {Q : α → Gh → Prop} (hA : At m g S) (h : okM m g (bd x (fun v => pu v)) S (fun v S' => ok (k v) (mset g m S') Q)) : ok (bd x k) g Q := by
  have h2 : okM m g x S (fun v S' => ok (k v) (mset g m S') Q) := oM_tail h
  unfold okM at h2
  rw [at_eq hA] at h2
  exact ok_bd (ok_mono h2 (fun v g' q => by
    obtain ⟨S', e, q⟩ := q
    rw [e]
    exact q))
/-- the world, once both have done a call -/
theorem ws_both {t' : Nat} {V' : VC} {S' : MS} {ps' : List AV} (h1 : CI n g1) (h2 : Mk m g1) (h3 : n + 22 ≤ m) (h4 : m + 27 ≤ a3) (h5 : qk g1 a3 = 23) (h6 : (qW g1 a3).length = 1) (h7 : CV n g1 = V') (h8 : Rel t' V' S' ps') : WS n m a3 t' (mset g1 m S') V' S' ps' := ⟨⟨ci_mset h1, mk_mset h2, h3, h4, h5, h6⟩, at_mset, cv_mset.trans h7, h8⟩
end
