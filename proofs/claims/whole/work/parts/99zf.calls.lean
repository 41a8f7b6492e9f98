/-! a call of the law: the class's, then the reference's -/
def endG (r : Nat ⊕ Int32) (g : Gh) (a3 : Nat) : Gh := match r with
  | .inl _ => wE g
  | .inr v => wW g a3 [v.toInt64]
/-- what a call cost -/
def Cst (n : Nat) (g g' : Gh) (z : Nat) : Prop := qs g' + rsum n g ≤ qs g + rsum n g' + z + 6 ∧ 16 * qn g' + qs g + 16 * ccnt n g ≤ 16 * qn g + qs g' + 16 * ccnt n g' + 16
section
variable {n m a3 t : Nat} {g g1 : Gh} {S : MS} {V : VC} {ps : List AV} {Q : Int32 → Gh → Prop}
theorem set_one {l : List Int64} {v : Int64} (h : l.length = 1) : l.set 0 v = [v] := by
  cases l with
  | nil => cases h
  | cons x l =>
    cases l with
    | nil => rfl
    | cons y l => simp at h
theorem endG_ok {r : Nat ⊕ Int32} (h1 : CI n g1) (h2 : Mk m g1) (h5 : qk g1 a3 = 23) (h6 : (qW g1 a3).length = 1) (h7 : At m g1 S) : CI n (endG r g1 a3) ∧ Mk m (endG r g1 a3) ∧ qk (endG r g1 a3) a3 = 23 ∧ (qW (endG r g1 a3) a3).length = 1 ∧ At m (endG r g1 a3) S ∧ CV n (endG r g1 a3) = CV n g1 ∧ (∀ v, r = .inr v → (qW (endG r g1 a3) a3)[0]? = some v.toInt64) ∧ (qs (endG r g1 a3) ≤ qs g1 + 6 ∧ 16 * qn (endG r g1 a3) + qs g1 ≤ 16 * qn g1 + qs (endG r g1 a3) + 16) ∧ rsum n (endG r g1 a3) = rsum n g1 ∧ ccnt n (endG r g1 a3) = ccnt n g1 := by
  cases r with
  | inl j => exact ⟨h1, h2, h5, h6, h7, rfl, fun v q => (by cases q), ⟨Nat.le_refl _, by show 16 * (qn g1 + 1) + qs g1 ≤ 16 * qn g1 + (qs g1 + 6) + 16; omega⟩, rfl, rfl⟩
  | inr v =>
    have e : qW (endG (.inr v) g1 a3) a3 = [v.toInt64] := if_pos rfl
    refine ⟨h1, h2, h5, by rw [e]; rfl, h7, rfl, fun w q => ?_, ⟨Nat.le_add_right _ _, by show 16 * qn g1 + qs g1 ≤ 16 * qn g1 + qs g1 + 16; omega⟩, rfl, rfl⟩
    cases q
    rw [e]
    rfl
theorem law_call {r : Nat ⊕ Int32} {V' : VC} {z t' : Nat} {pm : Nat → Int32} {refX : M Int32} {NEXT : M Int32} (hw : WS n m a3 t g V S ps) (hz : ∀ a, qk g a ≠ 0 → a < qn g) (hc : Cp n g g1 z) (hcv : CV n g1 = V') (hpm : ∀ j, r = .inl j → pm j ≠ 0)
    (href : ∀ (g' : Gh) (Q' : Int32 → MS → Prop), Mk m g' → (∀ S' ps', Rel t' V' S' ps' → S'.1 0 = th2 pm r → okM m g' (pu (vl r)) S' Q') → okM m g' (bd refX (fun v => pu v)) S Q')
    (hnext : ∀ g2 S2 ps2, WS n m a3 t' g2 V' S2 ps2 → Cst n g g2 z → ok NEXT g2 Q) : ok (bd refX (fun x25 => bd (ck 12 m) (fun _ => bd (X9_thrown m) (fun x26 => it (x26 = th2 pm r) (it (¬ th2 pm r = 0) NEXT (bd (ll a3 0) (fun x27 => it (lg_cmp x27 x25.toInt64 = 0) NEXT (pu 0)))) (pu 0))))) (endG r g1 a3) Q := by
  obtain ⟨c1, c2, c3, c4, c5⟩ := ws_class hw hz hc
  obtain ⟨d1, d2, d3, d4, d5, d6, d7, d8, d9, d10⟩ := endG_ok (r := r) c1 c2 c3 c4 c5
  refine to_ref d5 (href (endG r g1 a3) _ d2 (fun S' ps' hr h0 => oM_pu ?_))
  have hws : WS n m a3 t' (mset (endG r g1 a3) m S') V' S' ps' := ws_both d1 d2 hw.1.2.2.1 hw.1.2.2.2.1 d3 d4 (d6.trans hcv) hr
  have hcst : Cst n g (mset (endG r g1 a3) m S') z := by
    have e1 : rsum n (mset (endG r g1 a3) m S') = rsum n g1 := d9
    have e2 : ccnt n (mset (endG r g1 a3) m S') = ccnt n g1 := d10
    have e3 : qs (mset (endG r g1 a3) m S') = qs (endG r g1 a3) := rfl
    have e4 : qn (mset (endG r g1 a3) m S') = qn (endG r g1 a3) := rfl
    have := hc.2.1
    unfold acc at this
    unfold Cst
    rw [e1, e2, e3, e4]
    omega
  have nx := hnext _ S' ps' hws hcst
  refine ok_ck d2.2.1 ?_
  refine to_ref at_mset ?_
  refine oM_bd ?_
  unfold X9_thrown
  refine oM_gI (mk_mset d2) (oM_pu (oM_pu ?_))
  rw [mset_idem, h0]
  refine ok_itT rfl ?_
  cases r with
  | inl j =>
    exact ok_itT (hpm j rfl) nx
  | inr v =>
    refine ok_itF (fun q => q rfl) (ok_ll (i := 0) d3 rfl (d7 v rfl) ?_)
    exact ok_itT ((lg_cmp_eq _ _).mpr rfl) nx
theorem put_codes {x : Int32} : ∀ j, (sPut x V).1 = .inl j → j = 0 ∨ j = 1 ∨ j = 2 := by
  intro j h
  unfold sPut at h
  dsimp only at h
  split at h
  · cases h
    exact Or.inr (Or.inl rfl)
  · split at h
    · cases h
      exact Or.inl rfl
    · split at h
      · cases h
        exact Or.inr (Or.inr rfl)
      · cases h
theorem wl_put {x : Int32} {k : Int32 → M Int32} (h : CI n g) (hG : GI (CV n g)) (h5 : ∀ g1, Cp n g g1 (sPut x (CV n g)).2.2 → qk g1 a3 = 23 ∧ (qW g1 a3).length = 1) (hk : ∀ g1, Cp n g g1 (sPut x (CV n g)).2.2 → CV n g1 = (sPut x (CV n g)).2.1 → ok (k (th2 pm3 (sPut x (CV n g)).1)) (endG (sPut x (CV n g)).1 g1 a3) Q) : ok (bd (L_put n x a3) k) g Q := by
  refine ok_bd ?_
  unfold L_put
  refine ok_ck (cs_x (ci_C h)) (ok_bd (c_put h hG (fun g1 p e => ?_)))
  have hk := hk g1 p e
  obtain ⟨q1, q2⟩ := h5 g1 p
  cases hr : (sPut x (CV n g)).1 with
  | inl j =>
    rw [hr] at hk
    show ok (it (j = 1) (pu 1) _) (wE g1) _
    rcases put_codes j hr with z | z | z <;> subst z
    · exact ok_itF (by decide) (ok_itT rfl (ok_pu hk))
    · exact ok_itT rfl (ok_pu hk)
    · exact ok_itF (by decide) (ok_itF (by decide) (ok_itT rfl (ok_pu hk)))
  | inr v =>
    rw [hr] at hk
    show ok (bd (lz a3 0 v.toInt64) _) g1 _
    refine ok_lz (i := 0) q1 rfl (by rw [q2]; decide) ?_
    rw [set_one q2]
    exact ok_pu hk
theorem s_put {x : Int32} {NEXT : M Int32} (hw : WS n m a3 t g V S ps) (ht : t ≤ 512) (hnext : ∀ g2 S2 ps2, WS n m a3 (t + 1) g2 (sPut x V).2.1 S2 ps2 → Cst n g g2 (sPut x V).2.2 → ok NEXT g2 Q) : ok (bd (L_put n x a3) (fun x23 => bd (ck 12 m) (fun _ => bd (X9_put m x) (fun x25 => bd (ck 12 m) (fun _ => bd (X9_thrown m) (fun x26 => it (x26 = x23) (it (¬ x23 = 0) NEXT (bd (ll a3 0) (fun x27 => it (lg_cmp x27 x25.toInt64 = 0) NEXT (pu 0)))) (pu 0))))))) g Q := by
  refine ok_zz (fun hz => ?_)
  have hcv := hw.2.2.1
  have hrel := hw.2.2.2
  refine wl_put hw.1.1 (by rw [hcv]; exact rel_gi hrel) (fun g1 p => ?_) (fun g1 p e => ?_)
  · obtain ⟨_, _, c3, c4, _⟩ := ws_class hw hz p
    exact ⟨c3, c4⟩
  · rw [hcv] at p e ⊢
    have hmk := (ws_class hw hz p).2.1
    refine ok_ck (endG_ok (r := (sPut x V).1) (ws_class hw hz p).1 hmk (ws_class hw hz p).2.2.1 (ws_class hw hz p).2.2.2.1 (ws_class hw hz p).2.2.2.2).2.1.2.1 ?_
    exact law_call hw hz p e (fun j _ => by unfold pm3; split <;> (try split) <;> decide) (fun g' Q' hM' hq => r_put hM' hrel ht hq) hnext
end
