/-! room: what the calls do -/
def tpV (V : VC) : List Int32 := V.2.2.2.2.1.2.2.2.1
/-- nothing that rooms depend on has changed -/
def Hm (V V' : VC) : Prop := shF V'.1.1 = shF V.1.1 ∧ V'.1.2.1 = V.1.2.1 ∧ V'.1.2.2.2 = V.1.2.2.2 ∧ V'.2.1 = V.2.1 ∧ V'.2.2.1 = V.2.2.1 ∧ V'.2.2.2.2.1.1 = V.2.2.2.2.1.1 ∧ V'.2.2.2.2.1.2.1 = V.2.2.2.2.1.2.1
theorem hm_rfl {V : VC} : Hm V V := ⟨rfl, rfl, rfl, rfl, rfl, rfl, rfl⟩
theorem hm_lam {V V' : VC} (h : Hm V V') : Lam V' = Lam V ∧ Gr V' = Gr V := by
  obtain ⟨h1, h2, h3, h4, h5, h6, h7⟩ := h
  constructor
  · unfold Lam
    rw [h7, h5, lamF_sh h1, lamF_sh h1]
  · unfold Gr
    rw [h5, h4]
theorem e_feed (m : Int32) (a b : Int64) (V : VC) : Hm V (sFeed m a b V).2.1 ∧ (sFeed m a b V).2.2 = 0 := by
  unfold sFeed
  split
  · exact ⟨hm_rfl, rfl⟩
  · split <;> exact ⟨hm_rfl, rfl⟩
theorem e_get (V : VC) : Hm V (sGet V).2.1 ∧ (sGet V).2.2 = 0 := by
  unfold sGet
  dsimp only
  split
  · exact ⟨hm_rfl, rfl⟩
  · split
    · exact ⟨hm_rfl, rfl⟩
    · split
      · exact ⟨hm_rfl, rfl⟩
      · split <;> exact ⟨hm_rfl, rfl⟩
theorem e_sync (V : VC) : Hm V (sSync V).2.1 ∧ (sSync V).2.2 = 0 := by
  unfold sSync
  split
  · exact ⟨hm_rfl, rfl⟩
  · exact ⟨⟨sh_ph V.1.1, rfl, rfl, rfl, rfl, rfl, rfl⟩, rfl⟩
theorem e_bad (V : VC) : Hm V (sBad V).2.1 ∧ (sBad V).2.2 = 0 := by
  unfold sBad
  split <;> exact ⟨hm_rfl, rfl⟩
theorem e_crash (x : Int32) (V : VC) : (Hm V (sCrash x V).2.1 ∨ (V.2.2.2.2.1.1 ≠ 0 ∧ (sCrash x V).2.1.2.2.2.2.1.1 = 0 ∧ (sCrash x V).2.1.2.2.2.2.1.2.1 = -1 ∧ (sCrash x V).2.1.2.2.1.2.2.1 = -1 ∧ (sCrash x V).2.1.2.2.1.1 = 0)) ∧ tpV (sCrash x V).2.1 = tpV V ∧ (sCrash x V).2.2 = 0 := by
  unfold sCrash
  split
  · exact ⟨Or.inl hm_rfl, rfl, rfl⟩
  · split
    · exact ⟨Or.inl hm_rfl, rfl, rfl⟩
    · rename_i h _
      exact ⟨Or.inr ⟨h, rfl, rfl, rfl, rfl⟩, rfl, rfl⟩
theorem e_format (c f : Int32) (V : VC) : (Hm V (sFormat c f V).2.1 ∨ ((sFormat c f V).2.1.2.2.2.2.1.1 = 1 ∧ (sFormat c f V).2.1.1.1 = [] ∧ (sFormat c f V).2.1.2.2.1.1 = 0)) ∧ tpV (sFormat c f V).2.1 = tpV V ∧ (sFormat c f V).2.2 = 0 := by
  unfold sFormat
  split
  · exact ⟨Or.inl hm_rfl, rfl, rfl⟩
  · exact ⟨Or.inr ⟨rfl, rfl, rfl⟩, rfl, rfl⟩
theorem e_patch (f i v : Int32) (V : VC) : (Hm V (sPatch f i v V).2.1 ∨ V.2.2.2.2.1.1 = 0) ∧ (sPatch f i v V).2.1.2 = V.2 ∧ (sPatch f i v V).2.2 = 0 := by
  unfold sPatch
  split
  · exact ⟨Or.inl hm_rfl, rfl, rfl⟩
  · rename_i h
    have h := Classical.not_not.mp h
    split
    · exact ⟨Or.inl hm_rfl, rfl, rfl⟩
    · split
      · exact ⟨Or.inl hm_rfl, rfl, rfl⟩
      · exact ⟨Or.inr h, rfl, rfl⟩
theorem e_open (V : VC) : (Hm V (sOpen V).2.1 ∨ (V.2.2.2.2.1.1 = 0 ∧ (sOpen V).2.1.2.2.2.2.1.1 = 1 ∧ (sOpen V).2.1.2.2.2.2.1.2.1 = -1 ∧ (sOpen V).2.1.2.2.1.2.2.1 = -1 ∧ (sOpen V).2.1.2.2.1.1 = 0)) ∧ tpV (sOpen V).2.1 = tpV V ∧ (sOpen V).2.2 = 0 := by
  unfold sOpen
  split
  · rename_i h
    have k1 : KS (oA V) (oD V) := by
      have k2 : ∀ (t i : Nat) (W : VC), KS W (rdF t i W) := by
        intro t
        induction t with
        | zero => exact fun i W => ks_rfl
        | succ t ih =>
          intro i W
          unfold rdF
          split
          · exact ks_rfl
          · split
            · exact ih _ _
            · split
              · exact ks_tr (ks_rh _ _ _ _ _ _) (ih _ _)
              · exact ks_tr (ks_tr (ks_dis _ _ _) (ks_rdV _ _ _)) (ih _ _)
      unfold oD oC oB
      exact ks_tr (ks_tr (ks_obM _ _) (ks_dlH _ _)) (k2 _ _ _)
    obtain ⟨k1, k2, k3⟩ := k1
    refine ⟨Or.inr ⟨h, rfl, ?_, ?_, ?_⟩, ?_, rfl⟩
    · exact congrArg (fun x : VK × VT => x.1.2.1) k3
    · exact congrArg (fun x : VM => x.2.2.1) k2
    · exact congrArg (fun x : VM => x.1) k2
    · show (oD V).2.2.2.2.1.2.2.2.1 = (oA V).2.2.2.2.1.2.2.2.1
      rw [k3]
  · exact ⟨Or.inl hm_rfl, rfl, rfl⟩
theorem xd_ens {li : Int32} {t : List Int32} {rs : List AR} {a b c d : Int32} (ha : ¬ a < li) : xd li (telR (plR t rs) a b c d (ensR t rs)) ≤ xd li rs := by
  unfold ensR
  cases h : (rs[plR t rs]?).filter (isR t) with
  | some r =>
    obtain ⟨h1, _⟩ := Option.filter_eq_some_iff.mp h
    show xd li (telR (plR t rs) a b c d rs) ≤ _
    rw [telR_set h1]
    have := xd_set (li := li) (r' := (r.1, a, b, c, d)) h1
    rw [if_neg (show ¬ (r.1, a, b, c, d).2.1 < li from ha)] at this
    omega
  | none =>
    have lp := plR_le t rs
    have g : (rs.take (plR t rs) ++ (t, 0, 0, 0, 0) :: rs.drop (plR t rs))[plR t rs]? = some ((t, 0, 0, 0, 0) : AR) := by
      rw [List.getElem?_append_right (by rw [List.length_take]; omega), List.length_take, Nat.min_eq_left lp, Nat.sub_self]
      rfl
    show xd li (telR (plR t rs) a b c d (rs.take (plR t rs) ++ (t, 0, 0, 0, 0) :: rs.drop (plR t rs))) ≤ _
    rw [telR_set g]
    show xd li ((rs.take (plR t rs) ++ (t, 0, 0, 0, 0) :: rs.drop (plR t rs)).set (plR t rs) (t, a, b, c, d)) ≤ _
    have h2 := xd_set (li := li) (r' := (t, a, b, c, d)) g
    rw [if_neg (show ¬ (t, a, b, c, d).2.1 < li from ha)] at h2
    have h3 := xd_app2 li (rs.take (plR t rs)) ((t, 0, 0, 0, 0) :: rs.drop (plR t rs))
    have h4 : xd li ((t, 0, 0, 0, 0) :: rs.drop (plR t rs)) = (if ((t, 0, 0, 0, 0) : AR).2.1 < li then rcn (t, 0, 0, 0, 0) else 0) + xd li (rs.drop (plR t rs)) := rfl
    have h5 := xd_app2 li (rs.take (plR t rs)) (rs.drop (plR t rs))
    rw [List.take_append_drop] at h5
    omega
theorem xd_era {li : Int32} : ∀ (rs : List AR) (p : Nat), xd li (rs.eraseIdx p) ≤ xd li rs
  | [], _ => Nat.le_refl _
  | r :: rs, 0 => by
    show xd li rs ≤ _ + xd li rs
    omega
  | r :: rs, p + 1 => by
    have := xd_era (li := li) rs p
    show _ + xd li (rs.eraseIdx p) ≤ _ + xd li rs
    omega
/-- a write -/
theorem e_write {t : Nat} {C : Int} {V : VC} {S : MS} {ps : List AV} {ks vs : Int32} (h : RelB t C V S ps) : (wrV ks vs (sB1 [] (sB3 V.2.2.2.2.1.2.2.2.1 V))).2.2 + Lam (wrV ks vs (sB1 [] (sB3 V.2.2.2.2.1.2.2.2.1 V))).2.1 ≤ Lam V + 4 * (14 + (tpV V).length) ∧ (wrV ks vs (sB1 [] (sB3 V.2.2.2.2.1.2.2.2.1 V))).2.1.2.2.1 = V.2.2.1 ∧ (wrV ks vs (sB1 [] (sB3 V.2.2.2.2.1.2.2.2.1 V))).2.1.2.2.2.2.1.1 = V.2.2.2.2.1.1 ∧ tpV (wrV ks vs (sB1 [] (sB3 V.2.2.2.2.1.2.2.2.1 V))).2.1 = [] ∧ (wrV ks vs (sB1 [] (sB3 V.2.2.2.2.1.2.2.2.1 V))).2.1.2.2.2.2.1.2.1 ≠ -1 := by
  obtain ⟨⟨⟨f1, f2, f3, f4, f5, f6⟩, hW, hC⟩, _⟩ := id h
  obtain ⟨hnx, hnf, hac⟩ := nx_free h
  have hout : V.2.2.1.2.2.1 = -1 ∨ (V.2.2.1.2.2.1 ≠ V.2.2.2.2.1.2.1 ∧ V.2.2.1.2.2.1 ≠ V.1.2.2.2.2.2) := by
    rcases h.2.2.2 with d | d | d
    · exact Or.inl d.2.2.2.1
    · by_cases q : V.2.2.1.2.2.1 = -1
      · exact Or.inl q
      · obtain ⟨a1, a2, a3, a4, l, a6, ms, nl, os, R, _, _, b7, _⟩ := d
        have o := b7 q
        refine Or.inr ⟨fun z => o.2.2.2.2.2.2.1 z.symm, fun z => ?_⟩
        have := o.2.2.2.2.2.1.2
        rw [z] at this
        omega
    · exact Or.inl d.2.2.2.2.1
  have hr := recB_len (st := V.2.2.2.2.1.2.2.1) (ks := ks) (vs := vs) (tk := V.2.2.2.2.1.2.2.2.1)
  have key : ∀ a, (a = V.2.2.2.2.1.2.1 ∧ a ≠ -1) ∨ a = V.1.2.2.2.2.2 → (appF a 0 (recB V.2.2.2.2.1.2.2.1 ks vs V.2.2.2.2.1.2.2.2.1) V.1.1 V.1.2.1).2.2 + (lamF a (appF a 0 (recB V.2.2.2.2.1.2.2.1 ks vs V.2.2.2.2.1.2.2.2.1) V.1.1 V.1.2.1).1 + lamF V.2.2.1.2.2.1 (appF a 0 (recB V.2.2.2.2.1.2.2.1 ks vs V.2.2.2.2.1.2.2.2.1) V.1.1 V.1.2.1).1) ≤ lamF V.2.2.2.2.1.2.1 V.1.1 + lamF V.2.2.1.2.2.1 V.1.1 + 4 * (14 + V.2.2.2.2.1.2.2.2.1.length) := by
    intro a ha
    have h1 := lam_app0 (a := a) (part := recB V.2.2.2.2.1.2.2.1 ks vs V.2.2.2.2.1.2.2.2.1) (sv := V.1.2.1) f1
    have ne : ¬ V.2.2.1.2.2.1 = a := by
      rcases hout with z | z
      · rw [z]
        rcases ha with y | y
        · exact fun q => y.2 q.symm
        · rw [y]
          exact fun q => hnx q.symm
      · rcases ha with y | y
        · rw [y.1]
          exact z.1
        · rw [y]
          exact z.2
    rw [lamF_ne (a := a) (b := 0) (c := V.2.2.1.2.2.1) f1 (fun q => ne q.1)]
    have h2 : lamF a V.1.1 ≤ lamF V.2.2.2.2.1.2.1 V.1.1 := by
      rcases ha with y | y
      · rw [y.1]
        exact Nat.le_refl _
      · rw [y]
        unfold lamF
        rw [hnf 0]
        exact Nat.zero_le _
    rw [hr] at h1
    omega
  unfold wrV
  dsimp only
  cases hn : isNew (sB1 [] (sB3 V.2.2.2.2.1.2.2.2.1 V)) (recB V.2.2.2.2.1.2.2.1 ks vs V.2.2.2.2.1.2.2.2.1).length with
  | true =>
    have hn' : isNew (sB1 [] (sB3 V.2.2.2.2.1.2.2.2.1 V)) (recB (sB1 [] (sB3 V.2.2.2.2.1.2.2.2.1 V)).2.2.2.2.1.2.2.1 ks vs (sB1 [] (sB3 V.2.2.2.2.1.2.2.2.1 V)).2.2.2.2.2.1).length = true := hn
    rw [hn']
    exact ⟨key V.1.2.2.2.2.2 (Or.inr rfl), rfl, rfl, rfl, hnx⟩
  | false =>
    have hn' : isNew (sB1 [] (sB3 V.2.2.2.2.1.2.2.2.1 V)) (recB (sB1 [] (sB3 V.2.2.2.2.1.2.2.2.1 V)).2.2.2.2.1.2.2.1 ks vs (sB1 [] (sB3 V.2.2.2.2.1.2.2.2.1 V)).2.2.2.2.2.1).length = false := hn
    rw [hn']
    have hne : V.2.2.2.2.1.2.1 ≠ -1 := fun q => of_decide_eq_false hn (Or.inl q)
    exact ⟨key V.2.2.2.2.1.2.1 (Or.inl ⟨rfl, hne⟩), rfl, rfl, rfl, hne⟩
/-- a put, a removal: nothing, or bytes -/
def Wr (V V' : VC) (z : Nat) : Prop := V.2.2.2.2.1.1 ≠ 0 ∧ V'.2.2.2.2.1.1 = V.2.2.2.2.1.1 ∧ V'.2.2.1 = V.2.2.1 ∧ tpV V ≠ [] ∧ tpV V' = [] ∧ z + Lam V' ≤ Lam V + 376 ∧ Gr V' ≤ Gr V
theorem gr_wr {V V' : VC} (hm : V'.2.2.1 = V.2.2.1) (hx : V.2.2.1.1 = 1 → V.2.2.1.2.2.2.1 = -1 → xd V.2.2.1.2.1 V'.2.1 ≤ xd V.2.2.1.2.1 V.2.1) : Gr V' ≤ Gr V := by
  unfold Gr
  rw [hm]
  split
  · rename_i q
    have := hx q.1 q.2
    omega
  · exact Nat.le_refl _
theorem e_put {t t' : Nat} {C C' : Int} {V : VC} {S S' : MS} {ps ps' : List AV} {ks : Int32} (h : RelB t C V S ps) (h' : RelB t' C' (sPut ks V).2.1 S' ps') : (Hm V (sPut ks V).2.1 ∧ (sPut ks V).2.2 = 0) ∨ Wr V (sPut ks V).2.1 (sPut ks V).2.2 := by
  have hT : V.2.2.2.2.1.2.2.2.1.length ≤ 80 := by
    have := h.2.1.2.2.2.2.2.1
    exact this.2.1
  revert h'
  unfold sPut
  dsimp only
  by_cases c0 : V.2.2.2.2.1.1 = 0
  · rw [if_pos c0]
    exact fun _ => Or.inl ⟨hm_rfl, rfl⟩
  rw [if_neg c0]
  by_cases c1 : ks < 1 ∨ 16 < ks ∨ nI V.2.2.2.2.1.2.2.2.1.length - ks < 0 ∨ 64 < nI V.2.2.2.2.1.2.2.2.1.length - ks
  · rw [if_pos c1]
    exact fun _ => Or.inl ⟨hm_rfl, rfl⟩
  rw [if_neg c1]
  cases c2 : fullV (sB1 [] (sB3 V.2.2.2.2.1.2.2.2.1 V)) (rsz ks (nI V.2.2.2.2.1.2.2.2.1.length - ks)) with
  | true => exact fun _ => Or.inl ⟨hm_rfl, rfl⟩
  | false =>
    intro h'
    refine Or.inr ?_
    dsimp only at h' ⊢
    generalize hvs : nI V.2.2.2.2.1.2.2.2.1.length - ks = vs at *
    obtain ⟨w1, w2, w3, w4, w5⟩ := e_write (ks := ks) (vs := vs) h
    generalize hw : wrV ks vs (sB1 [] (sB3 V.2.2.2.2.1.2.2.2.1 V)) = w at *
    have hne : tpV V ≠ [] := by
      intro q
      have q : V.2.2.2.2.1.2.2.2.1 = [] := q
      rw [q] at hvs
      apply c1
      by_cases c3 : ks < 1
      · exact Or.inl c3
      · refine Or.inr (Or.inr (Or.inl ?_))
        rw [← hvs]
        have e1 : ¬ ks.toInt < 1 := fun z => c3 (Int32.lt_iff_toInt_lt.mpr z)
        have e2 : ¬ 16 < ks.toInt := fun z => c1 (Or.inr (Or.inl (Int32.lt_iff_toInt_lt.mpr z)))
        have e3 : ks = nI ks.toNatClampNeg := nI_cl (fun z => by
          rw [Int32.lt_iff_toInt_lt, Int32.toInt_zero] at z
          omega)
        have e4 : ks.toNatClampNeg = ks.toInt.toNat := rfl
        rw [e3, Int32.lt_iff_toInt_lt, Int32.toInt_zero, show ([] : List Int32).length = 0 from rfl, nI_subI (by omega) (by omega)]
        omega
    refine ⟨c0, w3, w2, hne, w4, ?_, gr_wr w2 (fun q1 q2 => xd_ens ?_)⟩
    · have : (tpV V).length ≤ 80 := hT
      have e : Lam (sRr (telR (plR (V.2.2.2.2.1.2.2.2.1.take ks.toNatClampNeg) V.2.1) w.2.1.2.2.2.2.1.2.1 w.1 vs V.2.2.2.2.1.2.2.1 (ensR (V.2.2.2.2.1.2.2.2.1.take ks.toNatClampNeg) V.2.1)) w.2.1) = Lam w.2.1 := rfl
      rw [e]
      omega
    · have hM := m1_of h' (by show w.2.1.2.2.1.1 = 1; rw [w2]; exact q1) (by show w.2.1.2.2.1.2.2.2.1 = -1; rw [w2]; exact q2)
      have hl := hM.2.2.2.2.1.2.1
      have hl : w.2.1.2.2.2.2.1.2.1 = -1 ∨ w.2.1.2.2.1.2.1.toInt ≤ w.2.1.2.2.2.2.1.2.1.toInt := hl
      rw [w2] at hl
      rw [Int32.lt_iff_toInt_lt]
      rcases hl with z | z
      · exact absurd z w5
      · omega
theorem e_rem {t : Nat} {C : Int} {V : VC} {S : MS} {ps : List AV} (h : RelB t C V S ps) : (Hm V (sRem V).2.1 ∧ (sRem V).2.2 = 0) ∨ Wr V (sRem V).2.1 (sRem V).2.2 := by
  have hT : V.2.2.2.2.1.2.2.2.1.length ≤ 80 := by
    have := h.2.1.2.2.2.2.2.1
    exact this.2.1
  unfold sRem
  dsimp only
  by_cases c0 : V.2.2.2.2.1.1 = 0
  · rw [if_pos c0]
    exact Or.inl ⟨hm_rfl, rfl⟩
  rw [if_neg c0]
  by_cases c1 : V.2.2.2.2.1.2.2.2.1.length < 1 ∨ 16 < V.2.2.2.2.1.2.2.2.1.length
  · rw [if_pos c1]
    exact Or.inl ⟨hm_rfl, rfl⟩
  rw [if_neg c1]
  cases c2 : (V.2.1[plR V.2.2.2.2.1.2.2.2.1 V.2.1]?).filter (isR V.2.2.2.2.1.2.2.2.1) with
  | none => exact Or.inl ⟨hm_rfl, rfl⟩
  | some r =>
    cases c3 : fullV (sB1 [] (sB3 V.2.2.2.2.1.2.2.2.1 V)) (rsz (nI V.2.2.2.2.1.2.2.2.1.length) (-1)) with
    | true => exact Or.inl ⟨hm_rfl, rfl⟩
    | false =>
      refine Or.inr ?_
      dsimp only
      obtain ⟨w1, w2, w3, w4, w5⟩ := e_write (ks := nI V.2.2.2.2.1.2.2.2.1.length) (vs := -1) h
      generalize hw : wrV (nI V.2.2.2.2.1.2.2.2.1.length) (-1) (sB1 [] (sB3 V.2.2.2.2.1.2.2.2.1 V)) = w at *
      have hne : tpV V ≠ [] := by
        intro q
        have q : V.2.2.2.2.1.2.2.2.1 = [] := q
        apply c1
        rw [q]
        exact Or.inl (by decide)
      refine ⟨c0, w3, w2, hne, w4, ?_, gr_wr w2 (fun q1 q2 => xd_era _ _)⟩
      have : (tpV V).length ≤ 80 := hT
      have e : Lam (sRr (V.2.1.eraseIdx (plR V.2.2.2.2.1.2.2.2.1 V.2.1)) w.2.1) = Lam w.2.1 := rfl
      rw [e]
      omega
