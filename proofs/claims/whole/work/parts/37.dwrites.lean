/-! the disk: what changes its files -/
section
variable {n : Nat} {g g' : Gh} {α : Type} {Q : α → Gh → Prop}
def Dp (n : Nat) (g g' : Gh) (z : Nat) : Prop := fra (ownD n g) g g' ∧ acc n g g' z ∧ DI n g'
theorem nodup_mv {l s : List Nat} {p d : Nat} (h : (l ++ s).Nodup) (hd : l[p]? = some d) : (l.eraseIdx p ++ (s ++ [d])).Nodup ∧ ∀ x, x ∈ l.eraseIdx p ++ (s ++ [d]) → x ∈ l ++ s := by
  have hp := lt_of_some hd
  rw [List.getElem?_eq_getElem hp] at hd
  have e : l = l.take p ++ d :: l.drop (p + 1) := by
    rw [← Option.some.inj hd, ← List.drop_eq_getElem_cons hp, List.take_append_drop]
  have e2 : l.eraseIdx p = l.take p ++ l.drop (p + 1) := List.eraseIdx_eq_take_drop_succ ..
  have hpm : (l ++ s).Perm (l.eraseIdx p ++ (s ++ [d])) := by
    rw [e2]
    conv => lhs; rw [e]
    rw [List.append_assoc, List.append_assoc]
    refine List.Perm.append_left _ ?_
    rw [List.cons_append]
    refine (List.perm_append_singleton d (l.drop (p + 1) ++ s)).symm.trans ?_
    rw [List.append_assoc]
  exact ⟨hpm.nodup h, fun x hx => hpm.mem_iff.mpr hx⟩
theorem map_er {α β : Type} {f : α → β} {l : List α} {p : Nat} : (l.eraseIdx p).map f = (l.map f).eraseIdx p := by
  rw [List.eraseIdx_eq_take_drop_succ, List.eraseIdx_eq_take_drop_succ, List.map_append, List.map_take, List.map_drop]
def dsc (n : Nat) (g : Gh) (p d : Nat) : Gh := wL (wl g (n + 10) ((qL g (n + 10)).eraseIdx p)) (n + 11) (qL g (n + 11) ++ [d])
theorem dsc_L10 {p d : Nat} : qL (dsc n g p d) (n + 10) = (qL g (n + 10)).eraseIdx p := by
  unfold dsc
  simp only [p_qn_wI, p_qs_wI, p_qk_wI, p_qi_wI, p_qr_wI, p_qB_wI, p_qC_wI, p_qL_wI, p_qE_wI, p_qA_wI, p_qW_wI, p_qn_wR, p_qs_wR, p_qk_wR, p_qi_wR, p_qr_wR, p_qB_wR, p_qC_wR, p_qL_wR, p_qE_wR, p_qA_wR, p_qW_wR, p_qn_wB, p_qs_wB, p_qk_wB, p_qi_wB, p_qr_wB, p_qB_wB, p_qC_wB, p_qL_wB, p_qE_wB, p_qA_wB, p_qW_wB, p_qn_wX, p_qs_wX, p_qk_wX, p_qi_wX, p_qr_wX, p_qB_wX, p_qC_wX, p_qL_wX, p_qE_wX, p_qA_wX, p_qW_wX, p_qn_wL, p_qs_wL, p_qk_wL, p_qi_wL, p_qr_wL, p_qB_wL, p_qC_wL, p_qL_wL, p_qE_wL, p_qA_wL, p_qW_wL, p_qn_wl, p_qs_wl, p_qk_wl, p_qi_wl, p_qr_wl, p_qB_wl, p_qC_wl, p_qL_wl, p_qE_wl, p_qA_wl, p_qW_wl, p_qn_wA, p_qs_wA, p_qk_wA, p_qi_wA, p_qr_wA, p_qB_wA, p_qC_wA, p_qL_wA, p_qE_wA, p_qA_wA, p_qW_wA, p_qn_wW, p_qs_wW, p_qk_wW, p_qi_wW, p_qr_wW, p_qB_wW, p_qC_wW, p_qL_wW, p_qE_wW, p_qA_wW, p_qW_wW, p_qn_wO, p_qs_wO, p_qk_wO, p_qi_wO, p_qr_wO, p_qB_wO, p_qC_wO, p_qL_wO, p_qE_wO, p_qA_wO, p_qW_wO, p_qn_wNB, p_qs_wNB, p_qk_wNB, p_qi_wNB, p_qr_wNB, p_qB_wNB, p_qC_wNB, p_qL_wNB, p_qE_wNB, p_qA_wNB, p_qW_wNB, p_qn_wNL, p_qs_wNL, p_qk_wNL, p_qi_wNL, p_qr_wNL, p_qB_wNL, p_qC_wNL, p_qL_wNL, p_qE_wNL, p_qA_wNL, p_qW_wNL, p_qn_wF, p_qs_wF, p_qk_wF, p_qi_wF, p_qr_wF, p_qB_wF, p_qC_wF, p_qL_wF, p_qE_wF, p_qA_wF, p_qW_wF, vup]
  simp
theorem dsc_L11 {p d : Nat} : qL (dsc n g p d) (n + 11) = qL g (n + 11) ++ [d] := by
  unfold dsc
  simp only [p_qn_wI, p_qs_wI, p_qk_wI, p_qi_wI, p_qr_wI, p_qB_wI, p_qC_wI, p_qL_wI, p_qE_wI, p_qA_wI, p_qW_wI, p_qn_wR, p_qs_wR, p_qk_wR, p_qi_wR, p_qr_wR, p_qB_wR, p_qC_wR, p_qL_wR, p_qE_wR, p_qA_wR, p_qW_wR, p_qn_wB, p_qs_wB, p_qk_wB, p_qi_wB, p_qr_wB, p_qB_wB, p_qC_wB, p_qL_wB, p_qE_wB, p_qA_wB, p_qW_wB, p_qn_wX, p_qs_wX, p_qk_wX, p_qi_wX, p_qr_wX, p_qB_wX, p_qC_wX, p_qL_wX, p_qE_wX, p_qA_wX, p_qW_wX, p_qn_wL, p_qs_wL, p_qk_wL, p_qi_wL, p_qr_wL, p_qB_wL, p_qC_wL, p_qL_wL, p_qE_wL, p_qA_wL, p_qW_wL, p_qn_wl, p_qs_wl, p_qk_wl, p_qi_wl, p_qr_wl, p_qB_wl, p_qC_wl, p_qL_wl, p_qE_wl, p_qA_wl, p_qW_wl, p_qn_wA, p_qs_wA, p_qk_wA, p_qi_wA, p_qr_wA, p_qB_wA, p_qC_wA, p_qL_wA, p_qE_wA, p_qA_wA, p_qW_wA, p_qn_wW, p_qs_wW, p_qk_wW, p_qi_wW, p_qr_wW, p_qB_wW, p_qC_wW, p_qL_wW, p_qE_wW, p_qA_wW, p_qW_wW, p_qn_wO, p_qs_wO, p_qk_wO, p_qi_wO, p_qr_wO, p_qB_wO, p_qC_wO, p_qL_wO, p_qE_wO, p_qA_wO, p_qW_wO, p_qn_wNB, p_qs_wNB, p_qk_wNB, p_qi_wNB, p_qr_wNB, p_qB_wNB, p_qC_wNB, p_qL_wNB, p_qE_wNB, p_qA_wNB, p_qW_wNB, p_qn_wNL, p_qs_wNL, p_qk_wNL, p_qi_wNL, p_qr_wNL, p_qB_wNL, p_qC_wNL, p_qL_wNL, p_qE_wNL, p_qA_wNL, p_qW_wNL, p_qn_wF, p_qs_wF, p_qk_wF, p_qi_wF, p_qr_wF, p_qB_wF, p_qC_wF, p_qL_wF, p_qE_wF, p_qA_wF, p_qW_wF, vup]
  simp
theorem dsc_L12 {p d : Nat} : qL (dsc n g p d) (n + 12) = qL g (n + 12) := by
  unfold dsc
  simp only [p_qn_wI, p_qs_wI, p_qk_wI, p_qi_wI, p_qr_wI, p_qB_wI, p_qC_wI, p_qL_wI, p_qE_wI, p_qA_wI, p_qW_wI, p_qn_wR, p_qs_wR, p_qk_wR, p_qi_wR, p_qr_wR, p_qB_wR, p_qC_wR, p_qL_wR, p_qE_wR, p_qA_wR, p_qW_wR, p_qn_wB, p_qs_wB, p_qk_wB, p_qi_wB, p_qr_wB, p_qB_wB, p_qC_wB, p_qL_wB, p_qE_wB, p_qA_wB, p_qW_wB, p_qn_wX, p_qs_wX, p_qk_wX, p_qi_wX, p_qr_wX, p_qB_wX, p_qC_wX, p_qL_wX, p_qE_wX, p_qA_wX, p_qW_wX, p_qn_wL, p_qs_wL, p_qk_wL, p_qi_wL, p_qr_wL, p_qB_wL, p_qC_wL, p_qL_wL, p_qE_wL, p_qA_wL, p_qW_wL, p_qn_wl, p_qs_wl, p_qk_wl, p_qi_wl, p_qr_wl, p_qB_wl, p_qC_wl, p_qL_wl, p_qE_wl, p_qA_wl, p_qW_wl, p_qn_wA, p_qs_wA, p_qk_wA, p_qi_wA, p_qr_wA, p_qB_wA, p_qC_wA, p_qL_wA, p_qE_wA, p_qA_wA, p_qW_wA, p_qn_wW, p_qs_wW, p_qk_wW, p_qi_wW, p_qr_wW, p_qB_wW, p_qC_wW, p_qL_wW, p_qE_wW, p_qA_wW, p_qW_wW, p_qn_wO, p_qs_wO, p_qk_wO, p_qi_wO, p_qr_wO, p_qB_wO, p_qC_wO, p_qL_wO, p_qE_wO, p_qA_wO, p_qW_wO, p_qn_wNB, p_qs_wNB, p_qk_wNB, p_qi_wNB, p_qr_wNB, p_qB_wNB, p_qC_wNB, p_qL_wNB, p_qE_wNB, p_qA_wNB, p_qW_wNB, p_qn_wNL, p_qs_wNL, p_qk_wNL, p_qi_wNL, p_qr_wNL, p_qB_wNL, p_qC_wNL, p_qL_wNL, p_qE_wNL, p_qA_wNL, p_qW_wNL, p_qn_wF, p_qs_wF, p_qk_wF, p_qi_wF, p_qr_wF, p_qB_wF, p_qC_wF, p_qL_wF, p_qE_wF, p_qA_wF, p_qW_wF, vup]
  simp
theorem dsc_FV {p d : Nat} : FV n (dsc n g p d) = (FV n g).eraseIdx p := by
  unfold FV
  rw [dsc_L10, map_er]
  rfl
theorem dsc_SV {p d : Nat} : SV n (dsc n g p d) = SV n g ++ [qC g (d + 1)] := by
  unfold SV
  rw [dsc_L11, List.map_append]
  rfl
theorem dsc_Dp {p d : Nat} (hD : DI n g) (hd : (qL g (n + 10))[p]? = some d) (h11 : (qL g (n + 11)).length ≤ qE g (n + 11)) : Dp n g (dsc n g p d) 0 := by
  have hp := lt_of_some hd
  refine ⟨?_, ?_, ?_⟩
  · refine fra_trans (P' := ownD n g) (fra_wl (Or.inr (Or.inr (Or.inr (Or.inr (Or.inl rfl)))))) (fra_wL (Or.inr (Or.inr (Or.inr (Or.inr (Or.inr (Or.inl rfl))))))) (fun _ _ h => h)
  · have e1 : (qL (dsc n g p d) (n + 10)).length = (qL g (n + 10)).length - 1 := by rw [dsc_L10, List.length_eraseIdx_of_lt hp]
    have e2 : (qL (dsc n g p d) (n + 11)).length = (qL g (n + 11)).length + 1 := by rw [dsc_L11]; simp
    have e3 := ecap_4 (c := qE g (n + 11)) (m := (qL g (n + 11)).length + 1) (by omega)
    have e5 := ecap_5 (c := qE g (n + 11)) (m := (qL g (n + 11)).length + 1)
    refine ⟨?_, fun hCE => ?_⟩
    · unfold acc2 rsum ccnt
      rw [e1, e2]
      unfold dsc
      simp only [p_qn_wI, p_qs_wI, p_qk_wI, p_qi_wI, p_qr_wI, p_qB_wI, p_qC_wI, p_qL_wI, p_qE_wI, p_qA_wI, p_qW_wI, p_qn_wR, p_qs_wR, p_qk_wR, p_qi_wR, p_qr_wR, p_qB_wR, p_qC_wR, p_qL_wR, p_qE_wR, p_qA_wR, p_qW_wR, p_qn_wB, p_qs_wB, p_qk_wB, p_qi_wB, p_qr_wB, p_qB_wB, p_qC_wB, p_qL_wB, p_qE_wB, p_qA_wB, p_qW_wB, p_qn_wX, p_qs_wX, p_qk_wX, p_qi_wX, p_qr_wX, p_qB_wX, p_qC_wX, p_qL_wX, p_qE_wX, p_qA_wX, p_qW_wX, p_qn_wL, p_qs_wL, p_qk_wL, p_qi_wL, p_qr_wL, p_qB_wL, p_qC_wL, p_qL_wL, p_qE_wL, p_qA_wL, p_qW_wL, p_qn_wl, p_qs_wl, p_qk_wl, p_qi_wl, p_qr_wl, p_qB_wl, p_qC_wl, p_qL_wl, p_qE_wl, p_qA_wl, p_qW_wl, p_qn_wA, p_qs_wA, p_qk_wA, p_qi_wA, p_qr_wA, p_qB_wA, p_qC_wA, p_qL_wA, p_qE_wA, p_qA_wA, p_qW_wA, p_qn_wW, p_qs_wW, p_qk_wW, p_qi_wW, p_qr_wW, p_qB_wW, p_qC_wW, p_qL_wW, p_qE_wW, p_qA_wW, p_qW_wW, p_qn_wO, p_qs_wO, p_qk_wO, p_qi_wO, p_qr_wO, p_qB_wO, p_qC_wO, p_qL_wO, p_qE_wO, p_qA_wO, p_qW_wO, p_qn_wNB, p_qs_wNB, p_qk_wNB, p_qi_wNB, p_qr_wNB, p_qB_wNB, p_qC_wNB, p_qL_wNB, p_qE_wNB, p_qA_wNB, p_qW_wNB, p_qn_wNL, p_qs_wNL, p_qk_wNL, p_qi_wNL, p_qr_wNL, p_qB_wNL, p_qC_wNL, p_qL_wNL, p_qE_wNL, p_qA_wNL, p_qW_wNL, p_qn_wF, p_qs_wF, p_qk_wF, p_qi_wF, p_qr_wF, p_qB_wF, p_qC_wF, p_qL_wF, p_qE_wF, p_qA_wF, p_qW_wF, vup]
      simp
      omega
    · unfold CE at hCE ⊢
      rw [e1, e2]
      unfold dsc
      simp only [p_qn_wI, p_qs_wI, p_qk_wI, p_qi_wI, p_qr_wI, p_qB_wI, p_qC_wI, p_qL_wI, p_qE_wI, p_qA_wI, p_qW_wI, p_qn_wR, p_qs_wR, p_qk_wR, p_qi_wR, p_qr_wR, p_qB_wR, p_qC_wR, p_qL_wR, p_qE_wR, p_qA_wR, p_qW_wR, p_qn_wB, p_qs_wB, p_qk_wB, p_qi_wB, p_qr_wB, p_qB_wB, p_qC_wB, p_qL_wB, p_qE_wB, p_qA_wB, p_qW_wB, p_qn_wX, p_qs_wX, p_qk_wX, p_qi_wX, p_qr_wX, p_qB_wX, p_qC_wX, p_qL_wX, p_qE_wX, p_qA_wX, p_qW_wX, p_qn_wL, p_qs_wL, p_qk_wL, p_qi_wL, p_qr_wL, p_qB_wL, p_qC_wL, p_qL_wL, p_qE_wL, p_qA_wL, p_qW_wL, p_qn_wl, p_qs_wl, p_qk_wl, p_qi_wl, p_qr_wl, p_qB_wl, p_qC_wl, p_qL_wl, p_qE_wl, p_qA_wl, p_qW_wl, p_qn_wA, p_qs_wA, p_qk_wA, p_qi_wA, p_qr_wA, p_qB_wA, p_qC_wA, p_qL_wA, p_qE_wA, p_qA_wA, p_qW_wA, p_qn_wW, p_qs_wW, p_qk_wW, p_qi_wW, p_qr_wW, p_qB_wW, p_qC_wW, p_qL_wW, p_qE_wW, p_qA_wW, p_qW_wW, p_qn_wO, p_qs_wO, p_qk_wO, p_qi_wO, p_qr_wO, p_qB_wO, p_qC_wO, p_qL_wO, p_qE_wO, p_qA_wO, p_qW_wO, p_qn_wNB, p_qs_wNB, p_qk_wNB, p_qi_wNB, p_qr_wNB, p_qB_wNB, p_qC_wNB, p_qL_wNB, p_qE_wNB, p_qA_wNB, p_qW_wNB, p_qn_wNL, p_qs_wNL, p_qk_wNL, p_qi_wNL, p_qr_wNL, p_qB_wNL, p_qC_wNL, p_qL_wNL, p_qE_wNL, p_qA_wNL, p_qW_wNL, p_qn_wF, p_qs_wF, p_qk_wF, p_qi_wF, p_qr_wF, p_qB_wF, p_qC_wF, p_qL_wF, p_qE_wF, p_qA_wF, p_qW_wF, vup]
      simp
      omega
  · obtain ⟨a1, a2⟩ := nodup_mv hD.2 hd
    refine ⟨fun x hx => ?_, ?_⟩
    · rw [dsc_L10, dsc_L11] at hx
      exact hD.1 x (a2 x hx)
    · rw [dsc_L10, dsc_L11]
      exact a1
/-- the file at p goes to the spares -/
theorem ok_discardAt {p d : Nat} {x : Int32} {k : Unit → M α} (hC : Cs n g) (hD : DI n g) (hx : x = nI p) (hd : (qL g (n + 10))[p]? = some d) (h6 : (qL g (n + 11)).length ≤ 30000) (hk : Dp n g (dsc n g p d) 0 → ok (k ()) (dsc n g p d) Q) : ok (bd (X3_discardAt (n + 9) x) k) g Q := by
  refine ok_len hC (fun hl => ok_capL (cs_sp hC) (fun hl2 h11 => ok_bd ?_))
  have hp := lt_of_some hd
  have hdk := di_at hD hd
  unfold X3_discardAt
  subst hx
  refine ok_itF (nI_pos (by omega)) (ok_fsz hC (ok_itF (nI_ge hp (by omega)) (ok_sp hC (ok_fl hC (ok_ck (cs_fl hC) (ok_lrem (cs_fl hC) rfl hd (ok_ck (c := 7) hdk.1 (ok_ck (c := 2) (cs_sp hC) (ok_ladd (cs_sp hC) (Or.inr (Or.inl hdk.1)) ?_ (ok_pu ?_))))))))))
  · rw [p_qL_wl, vup, if_neg (by omega)]
    exact h6
  · have := hk (dsc_Dp hD hd h11)
    unfold dsc at this
    rw [p_qL_wl, vup, if_neg (by omega)]
    exact this
/-- of two heaps: the files' own things are the same -/
def fsm (g g' : Gh) : Prop := ∀ d, qi g' 701 d = qi g 701 d ∧ qi g' 702 d = qi g 702 d ∧ qi g' 703 d = qi g 703 d ∧ qB g' (d + 1) = qB g (d + 1) ∧ qC g' (d + 1) = qC g (d + 1)
theorem clear_loop {c f : Int32} {Q : Unit → Gh → Prop} : ∀ (m i : Nat) (g : Gh), i < m → i ≤ 30000 → Cs n g → DI n g → (qL g (n + 10)).length = i → (qL g (n + 11)).length + i ≤ 30000 →
    (∀ g', Dp n g g' 0 → qL g' (n + 10) = [] → SV n g' = SV n g ++ (FV n g).reverse.map (fun f => f.2.2.2.1) → qL g' (n + 12) = qL g (n + 12) → Q () (wI (wI (wI (wI g' 603 (n + 9) 0) 604 (n + 9) c) 605 (n + 9) f) 606 (n + 9) 1)) →
    ok (X3_clear_b10 m (n + 9) c f (nI i - 1)) g Q := by
  intro m
  induction m with
  | zero => intro i g h; omega
  | succ m ih =>
    intro i g hm h3 hC hD hl h6 hq
    show ok (X3_clear_b10b (X3_clear_b10 m) (n + 9) c f (nI i - 1)) g Q
    unfold X3_clear_b10b
    cases i with
    | zero =>
      have h1 : qL g (n + 10) = [] := List.length_eq_zero_iff.mp hl
      refine ok_itT (by decide) (ok_pI (cs_disk hC) (ok_pI (cs_disk hC) (ok_pI (cs_disk hC) (ok_pI (cs_disk hC) (ok_pu ?_)))))
      refine hq g ⟨fra_refl, acc_refl, hD⟩ h1 ?_ rfl
      unfold FV
      rw [h1]
      simp
    | succ i =>
      have e1 : nI (i + 1) - 1 = nI i := by rw [← nI_1, Int32.add_sub_cancel]
      rw [e1]
      obtain ⟨d, hd⟩ := some_of_lt (show i < (qL g (n + 10)).length by omega)
      refine ok_nz (fun hz => ok_itF (nI_pos (by omega)) (ok_ck (cs_disk hC) (ok_discardAt hC hD rfl hd (by omega) (fun hp => ?_))))
      have e2 : nI i + -1 = nI i - 1 := by rw [Int32.sub_eq_add_neg]
      rw [e2]
      have l1 : (qL (dsc n g i d) (n + 10)).length = i := by rw [dsc_L10, List.length_eraseIdx_of_lt (by omega)]; omega
      refine ih i _ (by omega) (by omega) (cs_fra hC hp.1 hz) hp.2.2 l1 (by rw [dsc_L11]; simp; omega) (fun g' hp' h1 h2 h3 => hq g' ⟨frD_trans hp.1 hp'.1, acc_trans hp.2.1 hp'.2.1, hp'.2.2⟩ h1 ?_ (h3.trans dsc_L12))
      rw [h2, dsc_SV, dsc_FV, List.append_assoc]
      congr 1
      have hf := fv_at hd
      have hlf : (FV n g).length = i + 1 := by rw [fv_len]; omega
      have e5 : FV n g = (FV n g).eraseIdx i ++ [fvw g d] := by
        rw [List.eraseIdx_eq_dropLast (by omega)]
        have hne : FV n g ≠ [] := by intro q; rw [q] at hlf; simp at hlf
        have : (FV n g).getLast hne = fvw g d := by
          rw [List.getLast_eq_getElem]
          rw [List.getElem?_eq_getElem (by omega)] at hf
          have := Option.some.inj hf
          simpa [hlf] using this
        rw [← this, List.dropLast_concat_getLast]
      conv => rhs; rw [e5]
      rw [List.reverse_append, List.map_append]
      rfl
theorem ok_clear {c f : Int32} {k : Unit → M α} (hC : Cs n g) (hD : DI n g) (h6 : (qL g (n + 11)).length + (qL g (n + 10)).length ≤ 30000)
    (hk : ∀ g', Dp n g g' 0 → qL g' (n + 10) = [] → SV n g' = SV n g ++ (FV n g).reverse.map (fun f => f.2.2.2.1) → qL g' (n + 12) = qL g (n + 12) → ok (k ()) (wI (wI (wI (wI g' 603 (n + 9) 0) 604 (n + 9) c) 605 (n + 9) f) 606 (n + 9) 1) Q) : ok (bd (X3_clear (n + 9) c f) k) g Q := by
  refine ok_bd (ok_fsz hC (ok_bpu ?_))
  have : FU = 1000000 := rfl
  exact clear_loop FU _ g (by omega) (by omega) hC hD rfl (by omega) hk
/-- such a file goes, if there is one: whether there was -/
theorem ok_discard {a b : Int32} {k : Int32 → M α} (hC : Cs n g) (hD : DI n g) (h6 : (qL g (n + 11)).length ≤ 30000) (h0 : fnd n g a b = none → ok (k 0) g Q) (h1 : ∀ d, fnd n g a b = some d → Dp n g (dsc n g (plF a b (FV n g)) d) 0 → ok (k 1) (dsc n g (plF a b (FV n g)) d) Q) : ok (bd (X3_discard (n + 9) a b) k) g Q := by
  refine ok_len hC (fun hl => ok_bd ?_)
  unfold X3_discard
  refine ok_ck (cs_disk hC) (ok_placeFor hC hD (ok_ck (cs_disk hC) (ok_at hC hD ?_)))
  have hp := plF_le a b (FV n g)
  rw [fv_len] at hp
  rw [oat_nI (by omega)]
  unfold fnd at h0 h1
  cases hd : (qL g (n + 10))[plF a b (FV n g)]? with
  | none =>
    rw [hd] at h0
    exact ok_pu (h0 rfl)
  | some d =>
    rw [hd] at h0 h1
    have hk := di_at hD hd
    refine ok_ck hk.1 (ok_isOf hk ?_)
    by_cases c : qi g 701 d = a ∧ qi g 702 d = b
    · rw [if_pos c]
      simp only [if_pos c] at h1
      exact ok_itT (by decide) (ok_ck (cs_disk hC) (ok_discardAt hC hD rfl hd h6 (fun hp => ok_pu (h1 d rfl hp))))
    · rw [if_neg c]
      simp only [if_neg c] at h0
      exact ok_itF (fun q => q rfl) (ok_pu (h0 trivial))
end
