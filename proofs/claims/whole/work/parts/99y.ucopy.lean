/-! class and reference: the unit that copies -/
theorem i_sub (a b c : Int32) : a - (b + c) = a - b - c := by
  rw [Int32.sub_eq_add_neg, Int32.sub_eq_add_neg, Int32.sub_eq_add_neg, Int32.neg_add, Int32.sub_eq_add_neg, Int32.add_assoc]
section
variable {m : Nat} {g : Gh} {S : MS} {α : Type} {t : Nat} {V : VC} {ps : List AV} {C : Int}
theorem dk_gi {V2 : VC} {nx cap : Int32} {fs1 : List AF} {ar1 ps1 : List AV} (h : RelB t C V S ps) (ht : t ≤ 512) (hdk : DK t nx cap fs1 ar1 ps1) (hc : cap.toInt ≤ 16384) (e1 : V2.1.1 = fs1) (e2 : V2.1.2.2.1 = ar1) (e3 : V2.2.1 = V.2.1) (e4 : V2.2.2.2.2.1.2.2.2.1 = V.2.2.2.2.1.2.2.2.1) : GI V2 := by
  obtain ⟨d1, d2, d3, d4, d5⟩ := hdk
  have pt := pcs_tot d1 d4.2.1
  have h1 := scnt_len fs1
  unfold GI
  rw [e1, e2, e3, e4]
  refine ⟨⟨d1, fun v hv => ?_, by omega, ?_⟩, ⟨h.1.2.1.1, by have := h.2.1.2.2.2.2.1.1.2; omega, fun r hr => ?_⟩, h.2.1.2.2.2.2.2.1.2.1⟩
  · have := mem_tot hv
    omega
  · have h1 := col_len ps1
    rw [d4.1]
    omega
  · obtain ⟨k1, x, P, W, q1, q2, q3, q4, q5, q6⟩ := h.1.2.1.2.1 r hr
    have lx := mem_tot (fnd_mem q1).1
    have hT := h.2.1.2.2.1.1.2.2.1
    have cl : ∀ n, n < 2 ^ 31 → (nI n).toNatClampNeg = n := by
      intro n hn
      show (nI n).toInt.toNat = n
      rw [nI_toInt hn]
      rfl
    rw [q2, q3, cl P (by omega), cl W (by omega)]
    exact ⟨q5, nI_pos (by omega), by omega, q4⟩
theorem os_len {os : List AR} {n : Nat} (h : (os.flatMap entB).length ≤ n) : 14 * os.length ≤ n := by
  have : ∀ l : List AR, 14 * l.length ≤ (l.flatMap entB).length := by
    intro l
    induction l with
    | nil => exact Nat.le_refl _
    | cons r l ih =>
      rw [List.flatMap_cons, List.length_append, entB_len, List.length_cons]
      omega
  have := this os
  omega
theorem hin_eq {os : List AR} (h : outOk V S os) : hinC V = hiC os := by
  obtain ⟨_, _, h3, h4, _⟩ := h
  unfold hinC hinB hiC hiB
  have e : (be4 0 ++ os.flatMap entB).drop 4 = os.flatMap entB := by
    have l : (be4 0).length = 4 := be4_len 0
    rw [List.drop_append, l, Nat.sub_self, List.drop_zero, List.drop_eq_nil_of_le (by omega), List.nil_append]
  rw [h3, h4, e]
theorem u_copy {ms os : List AR} {nl R : Nat} (hM : Mk m g) (h : RelB t C V S ps) (ht : t ≤ 512) (hCb : C ≤ 1000000) (hnx : V.1.2.2.2.2.2.toInt + 1 ≤ C) (hM1 : M1 V S)
    (b1 : RepL S ms) (b2 : S.1 43 = nI nl) (b3 : nl ≤ ms.length) (b4 : LV V.2.2.1.2.1 V.2.1 ms nl) (b7 : V.2.2.1.2.2.1 ≠ -1 → outOk V S os) (b8 : V.2.2.1.2.2.2.2.2.1 = nI R) (b9 : S.1 36 - S.1 37 = nI R) (b10 : ((totF V.1.1 + R : Nat) : Int) ≤ V.1.2.2.2.1.toInt) (b11 : need1 V ms os nl (inpL V.2.2.1.2.1 V.1.1) ≤ R) (hlt : nxS V.2.1 ms nl < ms.length) :
    UG V ∧ (duV V).1.1.2.2.2.2.2.toInt ≤ V.1.2.2.2.2.2.toInt + 1 ∧ (duV V).1.2.2.1.2.1 = V.2.2.1.2.1 ∧ (duV V).1.2.2.1.2.2.2.1 = -1 ∧ (duV V).1.2.2.1.1 = 1 ∧ (∃ r0, V.2.1[plR r0.1 V.2.1]? = some r0 ∧ r0.2.1 < V.2.2.1.2.1 ∧ ∃ o q, ¬ o < V.2.2.1.2.1 ∧ (duV V).1.2.1 = V.2.1.set (plR r0.1 V.2.1) (r0.1, o, q, r0.2.2.2.1, r0.2.2.2.2)) ∧ inpL V.2.2.1.2.1 (duV V).1.1.1 = inpL V.2.2.1.2.1 V.1.1 ∧ ∀ (k : Unit → M α) (Q : α → MS → Prop), (∀ S' ps', RelB t C (duV V).1 S' ps' → S'.1 0 = S.1 0 → okM m g (k ()) S' Q) → okM m g (bd (X9_unit m) k) S Q := by
  have hM1' := hM1
  obtain ⟨a1, a2, a3, a4, ⟨l1, l2, l3⟩, a6, _, _, _, _, _, ⟨b5, b6⟩, _⟩ := hM1
  have h0 := h
  have hdk := relB_dk h a6
  obtain ⟨⟨⟨f1, f2, f3, f4, f5, f6⟩, hW, hC⟩, ⟨hRS, hArr, r1, r2, r3, r4, r5⟩, ⟨hP, hP0⟩, hMm⟩ := h
  obtain ⟨c1, c2, c3, c4, c5, c6, c7⟩ := hC
  have hT := r1.1.2.2.1
  have pt := pcs_tot f1 hP.2.1
  have hop : V.2.2.2.2.1.1 = 1 := c1.resolve_left (fun q => by
    have := (c5 q).1
    rw [a1] at this
    exact absurd this (by decide))
  obtain ⟨r0, q1, q2, q3⟩ := nxS_some b3 hlt
  generalize hi : nxS V.2.1 ms nl = i at *
  have hrem : remL V.2.1 ms nl = r0 :: (ms.drop (i + 1)).filter (stl V.2.1) := q3
  obtain ⟨m1, m2⟩ := (rem_mem (r := r0) hW.1 b4).mp (by rw [hrem]; exact List.mem_cons_self)
  have hr0 := srtR_mem hW.1 m1
  obtain ⟨hc1, hc2, hc3, hc4, hc5⟩ := rel_rcb h0 m1
  obtain ⟨hk1, x, P, W, hfit⟩ := hW.2.1 r0 m1
  obtain ⟨ec1, ec2, ec3⟩ := rcb_fit r1 hfit
  have hfit' := hfit
  obtain ⟨t1, t2, t3, t4, t5, t6⟩ := hfit
  have hpw : (remL V.2.1 ms nl).Pairwise bhd := by
    unfold remL
    exact List.Pairwise.sublist (List.filter_sublist.trans (List.drop_sublist _ _)) b4.1
  rw [hrem] at hpw
  have hnx1 := nxB_some (l := V.2.2.1.2.1) (o := none) (oa := none) (r := r0) hW.1 (fun j hj => by cases hj) (fun _ => rfl) ⟨m1, m2, fun q hq => by cases hq⟩ (fun y hc => by
    have hy := (rem_mem hW.1 b4).mpr ⟨hc.1, hc.2.1⟩
    rw [hrem] at hy
    rcases List.mem_cons.mp hy with z | z
    · exact Or.inl z
    · exact Or.inr ((List.pairwise_cons.mp hpw).1 y z))
  have hjr : (nxB V.2.1 V.2.2.1.2.1 none).bind (fun j => (V.2.1[j]?).map (fun r => (j, r))) = some (plR r0.1 V.2.1, r0) := by
    rw [hnx1.1]
    simp only [Option.bind_some, hr0, Option.map_some]
  have edu : duV V = cpV (plR r0.1 V.2.1) r0 V := by
    unfold duV
    rw [if_pos a2, hjr]
  have lbs : ∀ y : AF, y.2.2.1 = x.2.2.1 → (recOf y P (14 + r0.1.length + W)).length = 14 + r0.1.length + W := by
    intro y hy
    unfold recOf
    rw [hy, List.length_take, List.length_drop]
    omega
  have hUG : ∀ A : VC, (cpA r0 V).1 = A → GI A → (∃ f, fndF r0.2.1 0 A.1.1 = some f ∧ P + (14 + r0.1.length + W) ≤ f.2.2.1.length) → r0.2.1 ≠ A.2.2.1.2.2.1 → UG V := by
    intro A eA gA hf hne
    refine ⟨dk_gi h0 ht hdk f4.2.1 rfl rfl rfl rfl, ?_⟩
    rw [if_pos a2, hjr]
    refine ⟨fun q => ?_, c7, ?_⟩
    · obtain ⟨_, _, o3, _⟩ := b7 q
      rw [o3, List.length_append, be4_len]
      omega
    · show GI (cpA r0 V).1 ∧ ∃ f, fndF r0.2.1 0 (cpA r0 V).1.1.1 = some f ∧ r0.2.2.1.toNatClampNeg + rcn r0 ≤ f.2.2.1.length ∧ r0.2.1 ≠ (cpA r0 V).1.2.2.1.2.2.1
      rw [eA, ec2, ec3]
      obtain ⟨f, g1, g2⟩ := hf
      exact ⟨gA, f, g1, g2, hne⟩
  have hunit : ∀ (k : Unit → M α) (Q : α → MS → Prop), okM m g (bd (X9_copies m (nI i)) (fun _ => pu ())) S (fun v S1 => okM m g (k v) S1 Q) → okM m g (bd (X9_unit m) k) S Q := by
    intro k Q hq
    refine m_unit (ms := ms) (nl := nl) (is := []) (ni := 0) hM r1 f1 r2 r3 (fun _ => ⟨⟨b1, b2, b3⟩, fun z => absurd (by rw [hi]; exact hlt) z, fun _ => by rw [hi]; exact hq⟩) (fun z => absurd a3 z)
  have hnl : r0.2.1.toInt < V.2.2.1.2.1.toInt := by
    rw [← Int32.lt_iff_toInt_lt]
    exact m2
  have hLVx : ∃ nl, nl ≤ ms.length ∧ LV V.2.2.1.2.1 V.2.1 ms nl ∧ remL V.2.1 ms nl = r0 :: (ms.drop (i + 1)).filter (stl V.2.1) := ⟨nl, b3, b4, hrem⟩
  have hfm := f4
  unfold need1 at b11
  rw [hrem] at b11
  by_cases hou : V.2.2.1.2.2.1 = -1
  · -- a first output
    rw [if_pos hou] at b11
    have elv : oLv V.2.2.1.2.2.1 V.1.1 = none := by
      unfold oLv
      rw [if_pos hou]
    rw [elv] at b11
    have hW1 : cpW r0 V = true := by
      unfold cpW
      exact decide_eq_true (Or.inl hou)
    have ewh : whV V = (V, 0) := by
      unfold whV
      rw [if_pos hou]
    have eA : (cpA r0 V).1 = tak6 V := by
      unfold cpA
      rw [hW1, ewh]
    have eP : cpP r0 V = 0 := by
      unfold cpP
      rw [hW1]
    have ez : szF V.1.2.2.2.2.2 0 V.1.1 = 0 := by
      unfold szF
      cases hz : fndF V.1.2.2.2.2.2 0 V.1.1 with
      | none => rfl
      | some f =>
        obtain ⟨z1, z2, _⟩ := fnd_mem hz
        have := (hdk.2.1 f z1).2.1.2
        rw [z2] at this
        omega
    have eV : (duV V).1 = nhV (r0.1, V.1.2.2.2.2.2, 0, r0.2.2.2.1, r0.2.2.2.2) (sRr (telR (plR r0.1 V.2.1) V.1.2.2.2.2.2 0 r0.2.2.2.1 r0.2.2.2.2 V.2.1) (cpB r0 x (tak6 V))) := by
      rw [edu]
      unfold cpV
      rw [eA]
      have : fndF r0.2.1 0 (tak6 V).1.1 = some x := t1
      rw [this, eP]
      rfl
    have eV2 : (duV V).1 = (((appF V.1.2.2.2.2.2 0 (recOf x P (14 + r0.1.length + W)) V.1.1 V.1.2.1).1, (appF V.1.2.2.2.2.2 0 (recOf x P (14 + r0.1.length + W)) V.1.1 V.1.2.1).2.1, noteA V.1.2.2.2.2.2 0 (nI (recOf x P (14 + r0.1.length + W)).length) V.1.2.2.1, V.1.2.2.2.1, V.1.2.2.2.2.1, V.1.2.2.2.2.2 + 1), telR (plR r0.1 V.2.1) V.1.2.2.2.2.2 0 r0.2.2.2.1 r0.2.2.2.2 V.2.1, (V.2.2.1.1, V.2.2.1.2.1, V.1.2.2.2.2.2, V.2.2.1.2.2.2.1, 0 + 1, V.2.2.1.2.2.2.2.2.1 - rcb r0, be4 0 ++ entB (r0.1, V.1.2.2.2.2.2, 0, r0.2.2.2.1, r0.2.2.2.2)), V.2.2.2) := by
      rw [eV]
      unfold nhV
      rw [if_pos rfl]
      unfold cpB recOf
      rw [ec2, ec3]
      rfl
    have lb := lbs x rfl
    have e1n : (V.1.2.2.2.2.2 + 1).toInt = V.1.2.2.2.2.2.toInt + 1 := i_p1 (by omega)
    have hnr : 14 + r0.1.length + W ≤ R := by
      have : pk V.1.2.2.2.2.1.toNatClampNeg (r0 :: (ms.drop (i + 1)).filter (stl V.2.1)) none = 8 + (rcn r0 + 14 + r0.1.length) + pk V.1.2.2.2.2.1.toNatClampNeg ((ms.drop (i + 1)).filter (stl V.2.1)) (some (rcn r0)) := rfl
      omega
    refine ⟨hUG _ eA (dk_gi h0 ht hdk f4.2.1 rfl rfl rfl rfl) ⟨x, t1, t6⟩ (fun e => ?_), ?_, ?_, ?_, ?_, ⟨r0, hr0, m2, V.1.2.2.2.2.2, 0, nlt_of l1.2, ?_⟩, ?_, fun k Q hk => hunit k Q ?_⟩
    · have e : r0.2.1 = V.1.2.2.2.2.2 := e
      rw [e] at hc5
      omega
    · rw [eV2]
      show (V.1.2.2.2.2.2 + 1).toInt ≤ _
      omega
    · rw [eV2]
    · rw [eV2]
      exact a2
    · rw [eV2]
      exact a1
    · rw [eV2]
      exact telR_set hr0
    · rw [eV2]
      exact inpL_app (Or.inr (nlt_of l1.2))
    · refine m_copies (os := []) (sv := V.1.2.1) (sv' := []) hM r1 f1 r2 r3 b1 (fun q => absurd (a4.trans hou) q) hArr.2.2.1 hArr.1 q1 rfl hr0 hfit' (by omega) (by decide) (fun q => absurd (a4.trans hou) q) (fun _ => ⟨?_, by omega, by omega, fun S' s1 s2 s3 => oM_pu (hk S' (ps ++ [(V.1.2.2.2.2.2, 0, nI (14 + r0.1.length + W))]) ?_ (s3.2.2.2.2.2.2.2.1 0 (by decide)))⟩) (fun q => absurd (a4.trans hou) q)
      · rw [hRS.1.2.2.1]
        intro q
        rw [q] at c2
        exact absurd c2.1 (by decide)
      · obtain ⟨g1, g2, g3, g4, g5, g6, g7, g8⟩ := s3
        rw [hRS.1.2.2.1] at g1 g2 g3 g4 g6 s1
        refine rel_copy (V' := (duV V).1) (S' := S') (i := i) (n := 14 + r0.1.length + W) (R1 := R) (Hc := 0) (out := V.1.2.2.2.2.2) (nx' := V.1.2.2.2.2.2 + 1) (bs := recOf x P (14 + r0.1.length + W)) (sv := V.1.2.1) (fs1 := V.1.1) (ar1 := V.1.2.2.1) (ps1 := ps) (o0 := []) (lv := none) h0 ht hM1' hop b1 hLVx rfl hlt hr0 ec2.symm lb hdk (fun r hr => (hW.2.1 r hr).2) rfl rfl (Nat.le_refl _) (fun f hf => ?_) b10 b11 (Or.inr ⟨rfl, rfl, rfl, rfl, rfl⟩) (by omega) hCb (by rw [eV2]) (by rw [eV2, lb]) (by rw [eV2, ez]; rfl) ?_ (by rw [eV2]) (by rw [eV2]) (by rw [eV2]; exact g1) g2 (by rw [eV2]; rw [ez] at g3; exact g3) g4 g5 g6 g7 s1 ?_ g8
        · rcases c4 with z | z
          · rw [z] at hf
            obtain ⟨w1, w2, _⟩ := fnd_mem hf
            have := (hdk.2.1 f w1).2.1.1
            rw [w2] at this
            exact absurd this (by decide)
          · exact z.2 f hf
        · rw [eV2, ez, a1, a2, b8, ec1, nI_subN hnr, List.nil_append, List.flatMap_cons, List.flatMap_nil, List.append_nil]
          rfl
        · rw [g8.1 36 (by decide), s2, i_sub, b9, nI_subN hnr]
  · have oo := b7 hou
    rw [if_neg hou] at b11
    have elv : oLv V.2.2.1.2.2.1 V.1.1 = some (szF V.2.2.1.2.2.1 0 V.1.1) := by
      unfold oLv
      rw [if_neg hou]
    rw [elv] at b11
    obtain ⟨o1, o2, o3, o4, o5, o6, o7, o8⟩ := oo
    have hol := os_len o5.1
    have efm : V.1.2.2.2.2.1.toNatClampNeg = V.1.2.2.2.2.1.toInt.toNat := rfl
    have hne35 : ¬ S.1 35 = -1 := fun q => hou (a4.symm.trans q)
    have hfl14 : 14 ≤ (os.flatMap entB).length := by
      cases os with
      | nil => exact absurd rfl o2
      | cons e os =>
        rw [List.flatMap_cons, List.length_append, entB_len]
        omega
    have hhc := hiC_len os
    have hin := hin_eq (b7 hou)
    by_cases hfits : V.1.2.2.2.2.1 < nI (szF V.2.2.1.2.2.1 0 V.1.1) + nI (rcn r0)
    · -- the output is full: its hint, and a new one
      have hfits2 := (fm_lt (by omega) (by omega) (by omega)).mp hfits
      rw [pk_cons, if_neg (by omega)] at b11
      have hW1 : cpW r0 V = true := by
        unfold cpW
        rw [hc1]
        exact decide_eq_true (Or.inr hfits)
      have ewh : (whV V).1 = si809 (V.2.2.1.2.2.2.2.2.1 - nI (hiC os).length) (sDd (vApp V.2.2.1.2.2.1 1 (hiC os) V.1) (sB17 (hiC os) V)) := by
        unfold whV
        rw [if_neg hou, hin]
      obtain ⟨dk1, tot1⟩ := dk_app (a := V.2.2.1.2.2.1) (b := 1) (nx' := V.1.2.2.2.2.2) (part := hiC os) (sv := V.1.2.1) hdk (Or.inr rfl) ⟨by omega, o6.2⟩ (Int.le_refl _) (by omega) (by omega) f4.2.1 (fun f hf => by rw [o8] at hf; cases hf)
      have eA : (cpA r0 V).1 = tak6 (si809 (V.2.2.1.2.2.2.2.2.1 - nI (hiC os).length) (sDd (vApp V.2.2.1.2.2.1 1 (hiC os) V.1) (sB17 (hiC os) V))) := by
        unfold cpA
        rw [hW1]
        dsimp only
        rw [ewh]
      have eP : cpP r0 V = 0 := by
        unfold cpP
        rw [hW1]
      have t1' : fndF r0.2.1 0 (appF V.2.2.1.2.2.1 1 (hiC os) V.1.1 V.1.2.1).1 = some x := by
        rw [fnd_app_ne f1 (fun z => absurd z.2 (by decide))]
        exact t1
      have ez : szF V.1.2.2.2.2.2 0 (appF V.2.2.1.2.2.1 1 (hiC os) V.1.1 V.1.2.1).1 = 0 := by
        unfold szF
        cases hz : fndF V.1.2.2.2.2.2 0 (appF V.2.2.1.2.2.1 1 (hiC os) V.1.1 V.1.2.1).1 with
        | none => rfl
        | some f =>
          obtain ⟨z1, z2, _⟩ := fnd_mem hz
          have := (dk1.2.1 f z1).2.1.2
          rw [z2] at this
          omega
      have lb := lbs x rfl
      have e1n : (V.1.2.2.2.2.2 + 1).toInt = V.1.2.2.2.2.2.toInt + 1 := i_p1 (by omega)
      have eV : (duV V).1 = nhV (r0.1, V.1.2.2.2.2.2, 0, r0.2.2.2.1, r0.2.2.2.2) (sRr (telR (plR r0.1 V.2.1) V.1.2.2.2.2.2 0 r0.2.2.2.1 r0.2.2.2.2 V.2.1) (cpB r0 x (tak6 (si809 (V.2.2.1.2.2.2.2.2.1 - nI (hiC os).length) (sDd (vApp V.2.2.1.2.2.1 1 (hiC os) V.1) (sB17 (hiC os) V)))))) := by
        rw [edu]
        unfold cpV
        rw [eA]
        have : fndF r0.2.1 0 (tak6 (si809 (V.2.2.1.2.2.2.2.2.1 - nI (hiC os).length) (sDd (vApp V.2.2.1.2.2.1 1 (hiC os) V.1) (sB17 (hiC os) V)))).1.1 = some x := t1'
        rw [this, eP]
        rfl
      have eV2 : (duV V).1 = (((appF V.1.2.2.2.2.2 0 (recOf x P (14 + r0.1.length + W)) (appF V.2.2.1.2.2.1 1 (hiC os) V.1.1 V.1.2.1).1 (appF V.2.2.1.2.2.1 1 (hiC os) V.1.1 V.1.2.1).2.1).1, (appF V.1.2.2.2.2.2 0 (recOf x P (14 + r0.1.length + W)) (appF V.2.2.1.2.2.1 1 (hiC os) V.1.1 V.1.2.1).1 (appF V.2.2.1.2.2.1 1 (hiC os) V.1.1 V.1.2.1).2.1).2.1, noteA V.1.2.2.2.2.2 0 (nI (recOf x P (14 + r0.1.length + W)).length) (noteA V.2.2.1.2.2.1 1 (nI (hiC os).length) V.1.2.2.1), V.1.2.2.2.1, V.1.2.2.2.2.1, V.1.2.2.2.2.2 + 1), telR (plR r0.1 V.2.1) V.1.2.2.2.2.2 0 r0.2.2.2.1 r0.2.2.2.2 V.2.1, (V.2.2.1.1, V.2.2.1.2.1, V.1.2.2.2.2.2, V.2.2.1.2.2.2.1, 0 + 1, V.2.2.1.2.2.2.2.2.1 - nI (hiC os).length - rcb r0, be4 0 ++ entB (r0.1, V.1.2.2.2.2.2, 0, r0.2.2.2.1, r0.2.2.2.2)), V.2.2.2) := by
        rw [eV]
        unfold nhV
        rw [if_pos rfl]
        unfold cpB recOf
        rw [ec2, ec3]
        rfl
      have hb1 : 8 + 4 * (inpL V.2.2.1.2.1 V.1.1).length + 0 + pk V.1.2.2.2.2.1.toNatClampNeg (r0 :: (ms.drop (i + 1)).filter (stl V.2.1)) none ≤ R - (hiC os).length := by
        have : pk V.1.2.2.2.2.1.toNatClampNeg (r0 :: (ms.drop (i + 1)).filter (stl V.2.1)) none = 8 + (rcn r0 + 14 + r0.1.length) + pk V.1.2.2.2.2.1.toNatClampNeg ((ms.drop (i + 1)).filter (stl V.2.1)) (some (rcn r0)) := rfl
        omega
      have hdis : ¬ V.2.2.1.2.2.1 < V.2.2.1.2.1 := nlt_of o6.1
      refine ⟨hUG _ eA (dk_gi h0 ht dk1 f4.2.1 rfl rfl rfl rfl) ⟨x, t1', t6⟩ (fun e => ?_), ?_, ?_, ?_, ?_, ⟨r0, hr0, m2, V.1.2.2.2.2.2, 0, nlt_of l1.2, ?_⟩, ?_, fun k Q hk => hunit k Q ?_⟩
      · have e : r0.2.1 = V.1.2.2.2.2.2 := e
        rw [e] at hc5
        omega
      · rw [eV2]
        show (V.1.2.2.2.2.2 + 1).toInt ≤ _
        omega
      · rw [eV2]
      · rw [eV2]
        exact a2
      · rw [eV2]
        exact a1
      · rw [eV2]
        exact telR_set hr0
      · rw [eV2]
        show inpL V.2.2.1.2.1 (appF _ 0 _ _ _).1 = _
        rw [inpL_app (Or.inr (nlt_of l1.2)), inpL_app (Or.inr hdis)]
      · have hlen1 := scnt_len (appF V.2.2.1.2.2.1 1 (hiC os) V.1.1 V.1.2.1).1
        have hs1 := dk1.2.2.1
        have ht1 := dk1.2.2.2.2
        refine m_copies (os := os) (sv := (appF V.2.2.1.2.2.1 1 (hiC os) V.1.1 V.1.2.1).2.1) (sv' := V.1.2.1) hM r1 f1 r2 r3 b1 (fun _ => o1) hArr.2.2.1 hArr.1 q1 rfl hr0 hfit' (by omega) (by omega) (fun _ q => ?_) (fun q => absurd q hne35) (fun _ _ => ?_)
        · rw [a4, hRS.1.2.1, ← ec2] at q
          exact absurd hfits q
        · rw [a4]
          refine ⟨?_, ⟨by omega, by omega⟩, ⟨dk1.1, by omega, by omega⟩, x, ⟨t1', t2, t3, t4, t5, t6⟩, fun S' s1 s2 s3 => oM_pu (hk S' (ps ++ [(V.2.2.1.2.2.1, 1, nI (hiC os).length)] ++ [(V.1.2.2.2.2.2, 0, nI (14 + r0.1.length + W))]) ?_ (s3.2.2.2.2.2.2.2.1 0 (by decide)))⟩
          · rw [hRS.1.2.2.1]
            intro q
            rw [q] at c2
            exact absurd c2.1 (by decide)
          · obtain ⟨g1, g2, g3, g4, g5, g6, g7, g8⟩ := s3
            rw [hRS.1.2.2.1] at g1 g2 g3 g4 g6 s1
            have hnr : 14 + r0.1.length + W ≤ R - (hiC os).length := by omega
            refine rel_copy (V' := (duV V).1) (S' := S') (i := i) (n := 14 + r0.1.length + W) (R1 := R - (hiC os).length) (Hc := 0) (out := V.1.2.2.2.2.2) (nx' := V.1.2.2.2.2.2 + 1) (bs := recOf x P (14 + r0.1.length + W)) (sv := (appF V.2.2.1.2.2.1 1 (hiC os) V.1.1 V.1.2.1).2.1) (fs1 := (appF V.2.2.1.2.2.1 1 (hiC os) V.1.1 V.1.2.1).1) (ar1 := noteA V.2.2.1.2.2.1 1 (nI (hiC os).length) V.1.2.2.1) (ps1 := ps ++ [(V.2.2.1.2.2.1, 1, nI (hiC os).length)]) (o0 := []) (lv := none) h0 ht hM1' hop b1 hLVx rfl hlt hr0 ec2.symm lb dk1 (fun r hr => ?_) (inpL_app (Or.inr hdis)) ?_ (by omega) (fun f hf => ?_) (by rw [tot1]; omega) hb1 (Or.inr ⟨rfl, rfl, rfl, rfl, rfl⟩) (by omega) hCb (by rw [eV2]) (by rw [eV2, lb]) (by rw [eV2, ez]; rfl) ?_ (by rw [eV2]) (by rw [eV2]) (by rw [eV2]; exact g1) g2 (by rw [eV2]; rw [ez] at g3; exact g3) g4 g5 g6 g7 s1 ?_ g8
            · obtain ⟨_, x2, P2, W2, z⟩ := hW.2.1 r hr
              obtain ⟨x3, z2, _⟩ := fit_app (a := V.2.2.1.2.2.1) (b := 1) (part := hiC os) (sv := V.1.2.1) f1 z
              exact ⟨x3, P2, W2, z2⟩
            · rw [dby_app, if_neg (fun z => absurd z.1 (by decide)), Nat.add_zero]
            · rw [fnd_app_ne f1 (fun z => absurd z.2 (by decide))] at hf
              rcases c4 with z | z
              · rw [z] at hf
                obtain ⟨w1, w2, _⟩ := fnd_mem hf
                have := (hdk.2.1 f w1).2.1.1
                rw [w2] at this
                exact absurd this (by decide)
              · exact z.2 f hf
            · rw [eV2, ez, a1, a2, b8, ec1, nI_subN (by omega), nI_subN hnr, List.nil_append, List.flatMap_cons, List.flatMap_nil, List.append_nil]
              rfl
            · rw [g8.1 36 (by decide), s2, i_sub, i_sub, b9, nI_subN (by omega), nI_subN hnr]
    · -- it fits
      have hfits2 : szF V.2.2.1.2.2.1 0 V.1.1 + rcn r0 ≤ V.1.2.2.2.2.1.toNatClampNeg := by
        exact Classical.byContradiction (fun z => hfits ((fm_lt (by omega) (by omega) (by omega)).mpr (by omega)))
      have hW1 : cpW r0 V = false := by
        unfold cpW
        rw [hc1]
        exact decide_eq_false (fun q => q.elim hou hfits)
      have eA : (cpA r0 V).1 = V := by
        unfold cpA
        rw [hW1]
      have eP : cpP r0 V = nI (szF V.2.2.1.2.2.1 0 V.1.1) := by
        unfold cpP
        rw [hW1]
      have hsz0 : ¬ nI (szF V.2.2.1.2.2.1 0 V.1.1) = 0 := fun q => by
        have := (nI_eq0 (by omega)).mp q
        omega
      have lb := lbs x rfl
      have eV : (duV V).1 = nhV (r0.1, V.2.2.1.2.2.1, nI (szF V.2.2.1.2.2.1 0 V.1.1), r0.2.2.2.1, r0.2.2.2.2) (sRr (telR (plR r0.1 V.2.1) V.2.2.1.2.2.1 (nI (szF V.2.2.1.2.2.1 0 V.1.1)) r0.2.2.2.1 r0.2.2.2.2 V.2.1) (cpB r0 x V)) := by
        rw [edu]
        unfold cpV
        rw [eA, t1, eP]
      have eV2 : (duV V).1 = (((appF V.2.2.1.2.2.1 0 (recOf x P (14 + r0.1.length + W)) V.1.1 V.1.2.1).1, (appF V.2.2.1.2.2.1 0 (recOf x P (14 + r0.1.length + W)) V.1.1 V.1.2.1).2.1, noteA V.2.2.1.2.2.1 0 (nI (recOf x P (14 + r0.1.length + W)).length) V.1.2.2.1, V.1.2.2.2.1, V.1.2.2.2.2.1, V.1.2.2.2.2.2), telR (plR r0.1 V.2.1) V.2.2.1.2.2.1 (nI (szF V.2.2.1.2.2.1 0 V.1.1)) r0.2.2.2.1 r0.2.2.2.2 V.2.1, (V.2.2.1.1, V.2.2.1.2.1, V.2.2.1.2.2.1, V.2.2.1.2.2.2.1, V.2.2.1.2.2.2.2.1 + 1, V.2.2.1.2.2.2.2.2.1 - rcb r0, V.2.2.1.2.2.2.2.2.2 ++ entB (r0.1, V.2.2.1.2.2.1, nI (szF V.2.2.1.2.2.1 0 V.1.1), r0.2.2.2.1, r0.2.2.2.2)), V.2.2.2) := by
        rw [eV]
        unfold nhV
        rw [if_neg hsz0]
        unfold cpB recOf
        rw [ec2, ec3]
        rfl
      have hnr : 14 + r0.1.length + W ≤ R := by
        rw [pk_cons, if_pos hfits2] at b11
        omega
      have hout : ¬ V.2.2.1.2.2.1 < V.2.2.1.2.1 := nlt_of o6.1
      refine ⟨hUG _ eA (dk_gi h0 ht hdk f4.2.1 rfl rfl rfl rfl) ⟨x, t1, t6⟩ (fun e => ?_), ?_, ?_, ?_, ?_, ⟨r0, hr0, m2, V.2.2.1.2.2.1, nI (szF V.2.2.1.2.2.1 0 V.1.1), hout, ?_⟩, ?_, fun k Q hk => hunit k Q ?_⟩
      · rw [e] at hnl
        omega
      · rw [eV2]
        show V.1.2.2.2.2.2.toInt ≤ _
        omega
      · rw [eV2]
      · rw [eV2]
        exact a2
      · rw [eV2]
        exact a1
      · rw [eV2]
        exact telR_set hr0
      · rw [eV2]
        exact inpL_app (Or.inr hout)
      · refine m_copies (os := os) (sv := V.1.2.1) (sv' := []) hM r1 f1 r2 r3 b1 (fun _ => o1) hArr.2.2.1 hArr.1 q1 rfl hr0 hfit' (by omega) (by omega) (fun _ _ => ?_) (fun q => absurd q hne35) (fun _ q => ?_)
        · rw [a4]
          refine ⟨by omega, by omega, fun S' s1 s2 s3 => oM_pu (hk S' (ps ++ [(V.2.2.1.2.2.1, 0, nI (14 + r0.1.length + W))]) ?_ (s3.2.2.2.2.2.2.2.1 0 (by decide)))⟩
          obtain ⟨g1, g2, g3, g4, g5, g6, g7, g8⟩ := s3
          refine rel_copy (V' := (duV V).1) (S' := S') (i := i) (n := 14 + r0.1.length + W) (R1 := R) (Hc := (hiC os).length) (out := V.2.2.1.2.2.1) (nx' := V.1.2.2.2.2.2) (bs := recOf x P (14 + r0.1.length + W)) (sv := V.1.2.1) (fs1 := V.1.1) (ar1 := V.1.2.2.1) (ps1 := ps) (o0 := os) (lv := some (szF V.2.2.1.2.2.1 0 V.1.1)) h0 ht hM1' hop b1 hLVx rfl hlt hr0 ec2.symm lb hdk (fun r hr => (hW.2.1 r hr).2) rfl rfl (Nat.le_refl _) (fun f hf => ?_) b10 b11 (Or.inl ⟨rfl, rfl, hou, b7 hou, rfl, rfl, rfl, by rw [← ec2]; exact hfits2⟩) (by omega) hCb (by rw [eV2]) (by rw [eV2, lb]) (by rw [eV2]) ?_ (by rw [eV2]) (by rw [eV2]) (by rw [eV2]; exact g1) g2 (by rw [eV2]; exact g3) g4 g5 g6 g7 ?_ ?_ g8
          · rcases c4 with z | z
            · rw [z] at hf
              obtain ⟨w1, w2, _⟩ := fnd_mem hf
              have := (hdk.2.1 f w1).2.1.1
              rw [w2] at this
              exact absurd this (by decide)
            · exact z.2 f hf
          · rw [eV2, a1, a2, b8, ec1, nI_subN hnr, o3, o4, List.flatMap_append, List.flatMap_cons, List.flatMap_nil, List.append_nil, List.append_assoc, nI_1]
          · rw [s1]
            exact hRS.1.2.2.1
          · rw [g8.1 36 (by decide), s2, i_sub, b9, nI_subN hnr]
        · rw [a4, hRS.1.2.1, ← ec2] at q
          exact absurd q hfits
end
