/-! forgetting, formatting, syncing, crashing -/
def sStop (V : VC) : VC := (V.1, V.2.1, (0, 0, -1, -1, V.2.2.1.2.2.2.2.1, 0, V.2.2.1.2.2.2.2.2.2), V.2.2.2)
def sForget (V : VC) : VC := si1109 (-1) (sStop (sRr [] V))
def sOclr (V : VC) : VC := (V.1, V.2.1, V.2.2.1, (0, 0, 0, 0, 0), V.2.2.2.2)
def sBegin (c f : Int32) (V : VC) : VC := si1108 1 (si1110 1 (sForget (sB5 [] (sOclr (sDd ([], V.1.2.1 ++ V.1.1.reverse.map (fun f => f.2.2.2.1), [], c, f, 1) V)))))
def sFormat (c f : Int32) (V : VC) : (Nat ⊕ Unit) × VC × Nat := if c < 128 ∨ 16384 < c ∨ f < 128 ∨ 4096 < f then (.inl 0, V, 0) else (.inr (), sBegin c f V, 0)
def sSettle (V : VC) : VC := sDd (V.1.1.map (fun f => (f.1, f.2.1, f.2.2.1, f.2.2.2.1, 0)), V.1.2.1, [], V.1.2.2.2) V
def sSync (V : VC) : (Nat ⊕ Int32) × VC × Nat := if V.2.2.2.2.1.1 = 0 then (.inl 1, V, 0) else (.inr (funs 0 V.1.1), sSettle V, 0)
def losV (left : Nat) (V : VC) : VC :=
  let fs := losR left V.1.2.2.1.reverse V.1.1
  sDd (fs.filter neF, V.1.2.1 ++ (fs.reverse.filter (fun f => !neF f)).map (fun f => f.2.2.2.1), V.1.2.2) V
def sCrash (kept : Int32) (V : VC) : (Nat ⊕ Int32) × VC × Nat :=
  if V.2.2.2.2.1.1 = 0 then (.inl 1, V, 0)
  else if kept < 0 ∨ funs 0 V.1.1 < kept then (.inl 0, V, 0)
  else (.inr (funs 0 V.1.1 - kept), sForget (si1108 0 (sSettle (losV (funs 0 V.1.1 - kept).toNatClampNeg V))), 0)
section
variable {n : Nat} {g g' : Gh} {α : Type} {Q : α → Gh → Prop}
theorem k_stop {k : Unit → M α} (h : CI n g) (hk : ∀ g', Cp n g g' 0 → CV n g' = sStop (CV n g) → ok (k ()) g' Q) : ok (bd (X5_stop (n + 16)) k) g Q := by
  refine ok_bd ?_
  unfold X5_stop
  refine st_z804 h (Or.inl rfl) (fun g1 p1 e1 _ _ => st_i805 p1.2.2 (fun g2 p2 e2 _ _ => st_i806 p2.2.2 (fun g3 p3 e3 _ _ => st_i807 p3.2.2 (fun g4 p4 e4 _ _ => st_i809 p4.2.2 (fun g5 p5 e5 _ _ => ok_pu (hk g5 (cp_trans0 (cp_trans0 (cp_trans0 (cp_trans0 p1 p2) p3) p4) p5) ?_))))))
  rw [e5, e4, e3, e2, e1]
  rfl
theorem k_forget {k : Unit → M α} (h : CI n g) (hk : ∀ g', Cp n g g' 0 → CV n g' = sForget (CV n g) → ok (k ()) g' Q) : ok (bd (X8_forget n) k) g Q := by
  refine ok_bd ?_
  unfold X8_forget
  have hC := ci_C h
  refine ok_xr hC (ok_ck (cs_dir hC) (cl_rclear h (fun g1 p1 e1 => ?_)))
  have hC1 := ci_C p1.2.2
  refine ok_xm hC1 (ok_ck (cs_mg hC1) (k_stop p1.2.2 (fun g2 p2 e2 => st_i1109 p2.2.2 (fun g3 p3 e3 _ _ => ok_pu (hk g3 (cp_trans0 (cp_trans0 p1 p2) p3) ?_)))))
  rw [e3, e2, e1]
  rfl
theorem k_oclr {k : Unit → M α} (h : CI n g) (hk : ∀ g', Cp n g g' 0 → CV n g' = sOclr (CV n g) → ok (k ()) g' Q) : ok (bd (X6_clear (n + 21)) k) g Q := by
  refine ok_bd ?_
  unfold X6_clear
  refine st_i902 h (fun g1 p1 e1 _ _ => st_i903 p1.2.2 (fun g2 p2 e2 _ _ => st_i904 p2.2.2 (fun g3 p3 e3 _ _ => st_i905 p3.2.2 (fun g4 p4 e4 _ _ => st_i906 p4.2.2 (fun g5 p5 e5 _ _ => ok_pu (hk g5 (cp_trans0 (cp_trans0 (cp_trans0 (cp_trans0 p1 p2) p3) p4) p5) ?_))))))
  rw [e5, e4, e3, e2, e1]
  rfl
theorem k_begin {c f : Int32} {k : Unit → M α} (h : CI n g) (hk : ∀ g', Cp n g g' 0 → CV n g' = sBegin c f (CV n g) → ok (k ()) g' Q) : ok (bd (X8_begin n c f) k) g Q := by
  refine ok_bd ?_
  unfold X8_begin
  have hC := ci_C h
  refine ok_xd hC (ok_ck (cs_disk hC) (cl_clear h (fun g1 p1 e1 => ?_)))
  have hC1 := ci_C p1.2.2
  refine ok_xo hC1 (ok_ck (cs_op hC1) (k_oclr p1.2.2 (fun g2 p2 e2 => ?_)))
  have hC2 := ci_C p2.2.2
  refine ok_xfound hC2 (ok_ck (cs_found hC2) (st_clr5 p2.2.2 (fun g3 p3 e3 _ => ?_)))
  have hC3 := ci_C p3.2.2
  refine ok_ck (cs_x hC3) (k_forget p3.2.2 (fun g4 p4 e4 => st_i1110 p4.2.2 (fun g5 p5 e5 _ _ => st_z1108 p5.2.2 (Or.inr rfl) (fun g6 p6 e6 _ _ => ok_pu (hk g6 (cp_trans0 (cp_trans0 (cp_trans0 (cp_trans0 (cp_trans0 p1 p2) p3) p4) p5) p6) ?_)))))
  rw [e6, e5, e4, e3, e2, e1]
  rfl
theorem c_format {c f : Int32} {Q : Nat ⊕ Unit → Gh → Prop} (h : CI n g) (hk : ∀ g1, Cp n g g1 (sFormat c f (CV n g)).2.2 → CV n g1 = (sFormat c f (CV n g)).2.1 → Q (sFormat c f (CV n g)).1 (fin (sFormat c f (CV n g)).1 g1)) : ok (X8_format n c f) g Q := by
  unfold X8_format X8_format_b14 X8_format_b38
  unfold sFormat at hk
  by_cases c1 : c < 128
  · rw [if_pos (Or.inl c1)] at hk
    exact ok_itT c1 (ok_th (hk g (cp_refl h) rfl))
  refine ok_itF c1 ?_
  by_cases c2 : 16384 < c
  · rw [if_pos (Or.inr (Or.inl c2))] at hk
    exact ok_itF (Int32.not_le.mpr c2) (ok_th (hk g (cp_refl h) rfl))
  refine ok_itT (Int32.not_lt.mp c2) ?_
  by_cases c3 : f < 128
  · rw [if_pos (Or.inr (Or.inr (Or.inl c3)))] at hk
    exact ok_itT c3 (ok_th (hk g (cp_refl h) rfl))
  refine ok_itF c3 ?_
  by_cases c4 : 4096 < f
  · rw [if_pos (Or.inr (Or.inr (Or.inr c4)))] at hk
    exact ok_itF (Int32.not_le.mpr c4) (ok_th (hk g (cp_refl h) rfl))
  rw [if_neg (by rintro (q | q | q | q); exact c1 q; exact c2 q; exact c3 q; exact c4 q)] at hk
  exact ok_itT (Int32.not_lt.mp c4) (ok_ck (cs_x (ci_C h)) (k_begin h (fun g1 p1 e1 => ok_pu (hk g1 p1 e1))))
theorem c_sync {Q : Nat ⊕ Int32 → Gh → Prop} (h : CI n g) (hk : ∀ g1, Cp n g g1 (sSync (CV n g)).2.2 → CV n g1 = (sSync (CV n g)).2.1 → Q (sSync (CV n g)).1 (fin (sSync (CV n g)).1 g1)) : ok (X8_sync n) g Q := by
  unfold X8_sync
  have hC := ci_C h
  have eS : sSync (CV n g) = (if qi g 1108 n = 0 then (.inl 1, CV n g, 0) else (.inr (funs 0 (FV n g)), sSettle (CV n g), 0)) := rfl
  rw [eS] at hk
  refine ok_gI (cs_x hC) rfl ?_
  by_cases c0 : qi g 1108 n = 0
  · rw [if_pos c0] at hk
    exact ok_itF (fun q => q c0) (ok_th (hk g (cp_refl h) rfl))
  · rw [if_neg c0] at hk
    exact ok_itT c0 (ok_xd hC (ok_ck (cs_disk hC) (ok_unsynced hC (ci_D h) (ok_xd hC (ok_ck (cs_disk hC) (cl_settle h (fun g1 p1 e1 => ok_pu (hk g1 p1 e1))))))))
/-- losing and settling together: between them the arrivals' files may be gone -/
theorem cl_lose {left : Nat} {x : Int32} {k : Unit → M α} (h : CI n g) (hS : SrtF (FV n g)) (hx : x = nI left) (hlf : left < 2 ^ 31) (hcs : ∀ w, w ∈ AIV n g → ¬ w.2.2 < 0) (hk : ∀ g', Cp n g g' 0 → CV n g' = sSettle (losV left (CV n g)) → ok (k ()) g' Q) : ok (bd (X3_loseLast (n + 9) x) (fun _ => bd (gR 11 4 n) (fun y => bd (ck 6 y) (fun _ => bd (X3_settle y) k)))) g Q := by
  have h9 := h.2.2
  have hA := ci_A h
  refine ok_nz (fun hz => ok_loseLast (ci_C h) (ci_D h) hA hS hx hlf (by have := hA.2.1; omega) (by omega) hcs (fun g1 p1 k4 l12 d1 f1 s1 => ?_))
  have hC1 := cs_fra (ci_C h) p1.1 hz
  refine ok_xd hC1 (ok_ck (cs_disk hC1) (ok_settle hC1 p1.2.2 ?_))
  have hf := settle_fra p1.2.2
  have hfv := settle_FV (n := n) (g := g1)
  have hD1 := p1.2.2
  generalize hg : wI (wF g1 (stF n g1 (qL g1 (n + 10)).length)) 603 (n + 9) 0 = g2 at *
  have hac : acn n g2 = 0 := by
    rw [← hg, acn, p_qi_wI, u2_eq]
    rfl
  have hL : qL g2 = qL g1 := by rw [← hg]; rfl
  have hkk : qk g2 = qk g1 := by rw [← hg]; rfl
  have hD2 : DI n g2 := by rw [← hg]; exact hD1
  have hac2 : acc n g1 g2 0 := by rw [← hg]; exact ⟨⟨Nat.le_refl _, Nat.le_refl _⟩, fun h => h⟩
  have hA2 : AvI n g2 := by
    refine ⟨?_, by omega, by rw [hL, l12, hkk]; exact k4, by rw [hL, l12]; exact hA.2.2.2.1, fun v hv => ?_⟩
    · rw [hac, ← hg, p_qi_wI, u2_eq]
      rfl
    · rw [hac] at hv
      simp at hv
  have hp2 : Dp n g g2 0 := ⟨frD_trans p1.1 hf, acc_trans p1.2.1 hac2, hD2⟩
  have hfl1 := fv_len (n := n) (g := g1)
  have hsl1 := sv_len (n := n) (g := g1)
  have hb : (qL g1 (n + 10)).length + (qL g1 (n + 11)).length ≤ 2300 := by
    rw [f1] at hfl1
    rw [s1] at hsl1
    simp only [List.length_append, List.length_map] at hsl1
    rw [sv_len] at hsl1
    have e1 : (losF left n g).length = (FV n g).length := by
      have : ∀ (l : List AV) (m : Nat) (fs : List AF), (losR m l fs).length = fs.length := by
        intro l
        induction l with
        | nil => intro m fs; rfl
        | cons w l ih =>
          intro m fs
          rw [losR_cons]
          split
          · rfl
          · rw [ih]
            unfold cutF
            rw [List.length_map]
      exact this _ _ _
    have e2 : ((losF left n g).filter neF).length + ((losF left n g).reverse.filter (fun f => !neF f)).length = (losF left n g).length := by
      rw [List.filter_reverse, List.length_reverse]
      have : ∀ l : List AF, (l.filter neF).length + (l.filter (fun f => !neF f)).length = l.length := by
        intro l
        induction l with
        | nil => rfl
        | cons f l ih =>
          simp only [List.filter_cons]
          cases neF f <;> simp <;> omega
      exact this _
    rw [fv_len] at e1
    omega
  obtain ⟨m1, m2⟩ := lift_D h hz hp2 hA2 (by rw [hL, l12]; omega) (by rw [hL]; exact hb)
  refine hk g2 m1 ?_
  rw [m2]
  have e1 : SV n g2 = SV n g1 := by rw [← hg]; rfl
  have e2 : AIV n g2 = [] := by
    unfold AIV
    rw [hac]
    rfl
  have e3 : DSC n g2 = DSC n g1 := by
    rw [← hg]
    unfold DSC
    rw [p_qi_wI, u2_ne (by omega), u2_ne (by omega), u2_ne (by omega), p_qi_wF]
    unfold stF
    rw [if_neg (by omega), if_neg (by omega), if_neg (by omega)]
  have e4 : vD n g2 = (((losF left n g).filter neF).map (fun f => (f.1, f.2.1, f.2.2.1, f.2.2.2.1, 0)), SV n g ++ ((losF left n g).reverse.filter (fun f => !neF f)).map (fun f => f.2.2.2.1), [], DSC n g) := by
    unfold vD
    rw [hfv, e1, e2, e3, f1, s1, d1]
  rw [e4]
  rfl
theorem c_crash {kept : Int32} {Q : Nat ⊕ Int32 → Gh → Prop} (h : CI n g) (hG : GI (CV n g)) (hcs : ∀ w, w ∈ AIV n g → ¬ w.2.2 < 0) (hk : ∀ g1, Cp n g g1 (sCrash kept (CV n g)).2.2 → CV n g1 = (sCrash kept (CV n g)).2.1 → Q (sCrash kept (CV n g)).1 (fin (sCrash kept (CV n g)).1 g1)) : ok (X8_crash n kept) g Q := by
  unfold X8_crash X8_crash_b34
  have hC := ci_C h
  have eS : sCrash kept (CV n g) = (if qi g 1108 n = 0 then (.inl 1, CV n g, 0) else if kept < 0 ∨ funs 0 (FV n g) < kept then (.inl 0, CV n g, 0) else (.inr (funs 0 (FV n g) - kept), sForget (si1108 0 (sSettle (losV (funs 0 (FV n g) - kept).toNatClampNeg (CV n g)))), 0)) := rfl
  rw [eS] at hk
  refine ok_gI (cs_x hC) rfl ?_
  by_cases c0 : qi g 1108 n = 0
  · rw [if_pos c0] at hk
    exact ok_itF (fun q => q c0) (ok_th (hk g (cp_refl h) rfl))
  rw [if_neg c0] at hk
  refine ok_itT c0 (ok_xd hC (ok_ck (cs_disk hC) (ok_unsynced hC (ci_D h) ?_)))
  by_cases c1 : kept < 0
  · rw [if_pos (Or.inl c1)] at hk
    exact ok_itT c1 (ok_th (hk g (cp_refl h) rfl))
  refine ok_itF c1 ?_
  by_cases c2 : funs 0 (FV n g) < kept
  · rw [if_pos (Or.inr c2)] at hk
    exact ok_itF (Int32.not_le.mpr c2) (ok_th (hk g (cp_refl h) rfl))
  rw [if_neg (by rintro (q | q); exact c1 q; exact c2 q)] at hk
  have hpos : ¬ funs 0 (FV n g) - kept < 0 := by
    generalize funs 0 (FV n g) = u at *
    have h3 : u.toInt < 2 ^ 31 := Int32.toInt_lt u
    simp only [Int32.lt_iff_toInt_lt, Int32.toInt_zero] at c1 c2 ⊢
    rw [Int32.toInt_sub, Int.bmod_eq_of_le (by omega) (by omega)]
    omega
  refine ok_itT (Int32.not_lt.mp c2) (ok_xd hC (ok_ck (cs_disk hC) (cl_lose h hG.1.1 (nI_cl hpos) (clamp_lt _) hcs (fun g1 p1 e1 => ?_))))
  refine st_z1108 p1.2.2 (Or.inl rfl) (fun g2 p2 e2 _ _ => ok_ck (cs_x (ci_C p2.2.2)) (k_forget p2.2.2 (fun g3 p3 e3 => ok_pu (hk g3 (cp_trans0 (cp_trans0 p1 p2) p3) ?_))))
  rw [e3, e2, e1]
end
