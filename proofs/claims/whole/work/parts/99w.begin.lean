/-! class and reference: a merge begins -/
theorem nI_eq0 {F : Nat} (h : F < 2 ^ 31) : nI F = 0 ↔ F = 0 := by
  constructor
  · intro q
    have := congrArg Int32.toInt q
    rw [nI_toInt h, Int32.toInt_zero] at this
    omega
  · intro q
    rw [q]
    rfl
theorem fm_lt {fm : Int32} {F n : Nat} (hf : 0 ≤ fm.toInt) (h1 : F ≤ 10000) (h2 : n ≤ 200) : fm < nI F + nI n ↔ fm.toNatClampNeg < F + n := by
  rw [nI_add, Int32.lt_iff_toInt_lt, nI_toInt (by omega)]
  have : fm.toNatClampNeg = fm.toInt.toNat := rfl
  omega
def lvO (F : Nat) : Option Nat := if F = 0 then none else some F
theorem nedL_pk {rs : List AR} {fm al : Int32} (hS : SrtR rs) (hal : ∀ r, r ∈ rs → r.2.1 < al) (hfm : 128 ≤ fm.toInt ∧ fm.toInt ≤ 4096) (hrc : ∀ r, r ∈ rs → rcb r = nI (rcn r) ∧ 14 ≤ rcn r ∧ rcn r ≤ 94) : ∀ (l pre : List AR) (t A F : Nat) (o : Option Nat), srtA rs = pre ++ l → (pre = [] → o = none) → (∀ pre' r0, pre = pre' ++ [r0] → o = some (plR r0.1 rs)) → l.length ≤ t → (F : Int) ≤ fm.toInt → nedL rs fm al t (nI A) (nI F) o = nI (A + pk fm.toNatClampNeg l (lvO F)) := by
  have hp := srtA_srt hS
  intro l
  induction l with
  | nil =>
    intro pre t A F o e1 e2 e3 ht hF
    rw [List.append_nil] at e1
    have ez : nI (A + pk fm.toNatClampNeg [] (lvO F)) = nI A := by
      unfold lvO
      split <;> rfl
    rw [ez]
    cases t with
    | zero => rfl
    | succ t =>
      have hn : nxB rs al o = none := by
        refine nxB_none (oa := pre.getLast?) hS (fun j hj => ?_) (fun q => ?_) (fun r hc => ?_)
        · rcases List.eq_nil_or_concat pre with z | ⟨p', r0, z⟩
          · rw [e2 z] at hj
            cases hj
          · rw [List.concat_eq_append] at z
            rw [e3 p' r0 z] at hj
            cases hj
            refine ⟨r0, srtR_mem hS ?_, by rw [z, List.getLast?_concat]⟩
            rw [← srtA_mem, e1, z]
            exact List.mem_append_right _ List.mem_cons_self
        · rcases List.eq_nil_or_concat pre with z | ⟨p', r0, z⟩
          · rw [z]
            rfl
          · rw [List.concat_eq_append] at z
            rw [e3 p' r0 z] at q
            cases q
        · have hm : r ∈ pre := by
            rw [← e1]
            exact srtA_mem.mpr hc.1
          rcases List.eq_nil_or_concat pre with z | ⟨p', r0, z⟩
          · rw [z] at hm
            cases hm
          · rw [List.concat_eq_append] at z
            have hb := hc.2.2 r0 (by rw [z, List.getLast?_concat])
            rw [z] at hm
            rw [e1, z] at hp
            rcases List.mem_append.mp hm with w | w
            · exact bhd_as hb ((List.pairwise_append.mp hp).2.2 r w r0 List.mem_cons_self)
            · rw [List.mem_singleton] at w
              rw [w] at hb
              exact bhd_ne hb rfl
      unfold nedL
      rw [hn]
      rfl
  | cons r l ih =>
    intro pre t A F o e1 e2 e3 ht hF
    obtain ⟨t, rfl⟩ : ∃ t', t = t' + 1 := ⟨t - 1, by rw [List.length_cons] at ht; omega⟩
    rw [List.length_cons] at ht
    have hrm : r ∈ rs := by
      rw [← srtA_mem, e1]
      exact List.mem_append_right _ List.mem_cons_self
    have hp' := hp
    rw [e1] at hp'
    obtain ⟨pa, pb, pc⟩ := List.pairwise_append.mp hp'
    obtain ⟨pd, pe⟩ := List.pairwise_cons.mp pb
    obtain ⟨n1, n2⟩ := nxB_some (l := al) (o := o) (oa := pre.getLast?) (r := r) hS (fun j hj => by
        rcases List.eq_nil_or_concat pre with z | ⟨p', r0, z⟩
        · rw [e2 z] at hj
          cases hj
        · rw [List.concat_eq_append] at z
          rw [e3 p' r0 z] at hj
          cases hj
          refine ⟨r0, srtR_mem hS ?_, by rw [z, List.getLast?_concat]⟩
          rw [← srtA_mem, e1, z]
          exact List.mem_append_left _ (List.mem_append_right _ List.mem_cons_self)) (fun q => by
        rcases List.eq_nil_or_concat pre with z | ⟨p', r0, z⟩
        · rw [z]
          rfl
        · rw [List.concat_eq_append] at z
          rw [e3 p' r0 z] at q
          cases q) ⟨hrm, hal r hrm, fun q hq => pc q (List.mem_of_getLast? hq) r List.mem_cons_self⟩ (fun x hc => by
        have hm : x ∈ pre ++ r :: l := by
          rw [← e1]
          exact srtA_mem.mpr hc.1
        rcases List.mem_append.mp hm with w | w
        · exfalso
          rcases List.eq_nil_or_concat pre with z | ⟨p', r0, z⟩
          · rw [z] at w
            cases w
          · rw [List.concat_eq_append] at z
            have hb := hc.2.2 r0 (by rw [z, List.getLast?_concat])
            rw [z] at w pa
            rcases List.mem_append.mp w with v | v
            · exact bhd_as hb ((List.pairwise_append.mp pa).2.2 x v r0 List.mem_cons_self)
            · rw [List.mem_singleton] at v
              rw [v] at hb
              exact bhd_ne hb rfl
        · rcases List.mem_cons.mp w with v | v
          · exact Or.inl v
          · exact Or.inr (pd x v))
    obtain ⟨c1, c2, c3⟩ := hrc r hrm
    have efm : fm.toNatClampNeg = fm.toInt.toNat := rfl
    unfold nedL
    rw [n1]
    simp only [Option.bind_some, n2, Option.map_some]
    have ih2 : ∀ A F : Nat, (F : Int) ≤ fm.toInt → nedL rs fm al t (nI A) (nI F) (some (plR r.1 rs)) = nI (A + pk fm.toNatClampNeg l (lvO F)) := by
      intro A F hF
      refine ih (pre ++ [r]) t A F _ (by rw [e1, List.append_assoc]; rfl) (fun q => ?_) (fun pre' r0 q => ?_) (by omega) hF
      · exact absurd q (by simp)
      · have := List.append_inj_right' q rfl
        cases this
        rfl
    rw [c1]
    by_cases d : nI F = 0 ∨ fm < nI F + nI (rcn r)
    · rw [decide_eq_true d]
      dsimp only
      have e4 : nI A + 8 + (nI (rcn r) + 14 + nI r.1.length) = nI (A + 8 + (rcn r + 14 + r.1.length)) := by
        rw [show nI (rcn r) + 14 = nI (rcn r + 14) from nI_add _ 14, nI_add, show nI A + 8 = nI (A + 8) from nI_add _ 8, nI_add]
      have e5 : (0 : Int32) + nI (rcn r) = nI (rcn r) := Int32.zero_add _
      rw [e4, e5, ih2 _ _ (by omega)]
      congr 1
      have e6 : lvO (rcn r) = some (rcn r) := by
        unfold lvO
        rw [if_neg (by omega)]
      rw [e6]
      unfold lvO
      by_cases z : F = 0
      · rw [if_pos z]
        show _ = A + (8 + (rcn r + 14 + r.1.length) + pk _ l (some (rcn r)))
        omega
      · rw [if_neg z, pk_cons, if_neg]
        · omega
        · have := d.resolve_left (fun q => z ((nI_eq0 (by omega)).mp q))
          rw [fm_lt (by omega) (by omega) (by omega)] at this
          omega
    · rw [decide_eq_false d]
      dsimp only
      have z : ¬ F = 0 := fun q => d (Or.inl ((nI_eq0 (by omega)).mpr q))
      have d2 : ¬ fm < nI F + nI (rcn r) := fun q => d (Or.inr q)
      rw [fm_lt (by omega) (by omega) (by omega)] at d2
      have e4 : nI A + (nI (rcn r) + 14 + nI r.1.length) = nI (A + (rcn r + 14 + r.1.length)) := by
        rw [show nI (rcn r) + 14 = nI (rcn r + 14) from nI_add _ 14, nI_add, nI_add]
      rw [e4, nI_add, ih2 _ _ (by omega)]
      congr 1
      have e6 : lvO (F + rcn r) = some (F + rcn r) := by
        unfold lvO
        rw [if_neg (by omega)]
      have e7 : lvO F = some F := by
        unfold lvO
        rw [if_neg z]
      rw [e6, e7, pk_cons, if_pos (by omega)]
      omega
theorem nedS_pk {fm : Int32} (hfm : 128 ≤ fm.toInt ∧ fm.toInt ≤ 4096) : ∀ (l : List AR) (A F H : Nat), (∀ r, r ∈ l → rcb r = nI (rcn r) ∧ 14 ≤ rcn r ∧ rcn r ≤ 94 ∧ r.1.length ≤ 16) → (F : Int) ≤ fm.toInt → (H = 0 → F = 0) → H + 30 * l.length ≤ 2000000 → nedS fm l (nI A) (nI F) (nI H) = nI (A + H + pk fm.toNatClampNeg l (if H = 0 then none else some F))
  | [], A, F, H, _, _, _, _ => by
    have : pk fm.toNatClampNeg [] (if H = 0 then none else some F) = 0 := by split <;> rfl
    rw [this]
    exact nI_add A H
  | r :: l, A, F, H, hr, hF, hH, hb => by
    obtain ⟨c1, c2, c3, c4⟩ := hr r List.mem_cons_self
    have hl : ∀ x, x ∈ l → rcb x = nI (rcn x) ∧ 14 ≤ rcn x ∧ rcn x ≤ 94 ∧ x.1.length ≤ 16 := fun x hx => hr x (List.mem_cons_of_mem _ hx)
    rw [List.length_cons] at hb
    have efm : fm.toNatClampNeg = fm.toInt.toNat := rfl
    unfold nedS
    rw [c1]
    have h8 : (8 : Int32) + (14 + nI r.1.length) = nI (22 + r.1.length) := by
      rw [show (14 : Int32) + nI r.1.length = nI (14 + r.1.length) from nI_add 14 _, show (8 : Int32) + nI (14 + r.1.length) = nI (8 + (14 + r.1.length)) from nI_add 8 _]
      congr 1
      omega
    by_cases d : 0 < nI H ∧ fm < nI F + nI (rcn r)
    · rw [decide_eq_true d]
      dsimp only
      have d1 : ¬ H = 0 := fun q => by
        have := d.1
        rw [q] at this
        exact absurd this (by decide)
      have d2 := d.2
      rw [fm_lt (by omega) (by omega) (by omega)] at d2
      rw [nI_add, nI_add, Int32.zero_add, h8, nedS_pk hfm l (A + H + rcn r) (rcn r) (22 + r.1.length) hl (by omega) (by omega) (by omega), if_neg (by omega), if_neg d1, pk_cons, if_neg (by omega)]
      congr 1
      omega
    · rw [decide_eq_false d]
      dsimp only
      by_cases z : H = 0
      · have zf := hH z
        subst z zf
        have e0 : (if nI 0 = (0 : Int32) then (8 : Int32) else nI 0) = 8 := if_pos rfl
        have ef : nI 0 + nI (rcn r) = nI (rcn r) := Int32.zero_add _
        rw [e0, h8, nI_add, ef, nedS_pk hfm l (A + rcn r) (rcn r) (22 + r.1.length) hl (by omega) (by omega) (by omega), if_neg (by omega), if_pos rfl]
        congr 1
        show A + rcn r + (22 + r.1.length) + pk _ l (some (rcn r)) = A + 0 + (8 + (rcn r + 14 + r.1.length) + pk _ l (some (rcn r)))
        omega
      · have hpos : 0 < nI H := by
          rw [Int32.lt_iff_toInt_lt, Int32.toInt_zero, nI_toInt (by omega)]
          omega
        have d2 : ¬ fm < nI F + nI (rcn r) := fun q => d ⟨hpos, q⟩
        rw [fm_lt (by omega) (by omega) (by omega)] at d2
        have e0 : (if nI H = (0 : Int32) then (8 : Int32) else nI H) = nI H := if_neg (fun q => z ((nI_eq0 (by omega)).mp q))
        have e14 : nI H + (14 + nI r.1.length) = nI (H + (14 + r.1.length)) := by
          rw [show (14 : Int32) + nI r.1.length = nI (14 + r.1.length) from nI_add 14 _, nI_add]
        rw [e0, e14, nI_add, nI_add, nedS_pk hfm l (A + rcn r) (F + rcn r) (H + (14 + r.1.length)) hl (by omega) (by omega) (by omega), if_neg (by omega), if_neg z, pk_cons, if_pos (by omega)]
        congr 1
        omega
theorem pkk_le (fm : Nat) : ∀ (l : List AR) (lv : Option Nat), (∀ r, r ∈ l → rcn r ≤ 94 ∧ r.1.length ≤ 16) → pk fm l lv ≤ 132 * l.length
  | [], lv, _ => Nat.zero_le _
  | r :: l, lv, h => by
    have h1 := h r List.mem_cons_self
    have ih := fun lv => pkk_le fm l lv (fun x hx => h x (List.mem_cons_of_mem _ hx))
    rw [List.length_cons]
    cases lv with
    | none =>
      show 8 + (rcn r + 14 + r.1.length) + pk fm l (some (rcn r)) ≤ _
      have := ih (some (rcn r))
      omega
    | some s =>
      rw [pk_cons]
      split
      · have := ih (some (s + rcn r))
        omega
      · have := ih (some (rcn r))
        omega
theorem insA_len2 : ∀ (rs ms : List AR), (rs.foldl (fun ms r => insA r ms) ms).length = rs.length + ms.length
  | [], ms => (Nat.zero_add _).symm
  | r :: rs, ms => by
    rw [List.foldl_cons, insA_len2 rs, insA_len, List.length_cons]
    omega
theorem srtA_len (rs : List AR) : (srtA rs).length = rs.length := insA_len2 rs []
theorem inp_all {l : Int32} {fs : List AF} (h : ∀ f, f ∈ fs → f.1 < l) : inpL l fs = dNum fs := by
  unfold inpL
  rw [List.filter_eq_self.mpr (fun f hf => decide_eq_true (h f hf))]
section
variable {m : Nat} {g : Gh} {S : MS} {α : Type} {t : Nat} {V : VC} {ps : List AV}
theorem rel_rcb {B : Int} (h : RelB t B V S ps) {r : AR} (hr : r ∈ V.2.1) : rcb r = nI (rcn r) ∧ 14 ≤ rcn r ∧ rcn r ≤ 94 ∧ r.1.length ≤ 16 ∧ r.2.1.toInt < V.1.2.2.2.2.2.toInt := by
  obtain ⟨h1, x, P, W, hf⟩ := h.1.2.1.2.1 r hr
  obtain ⟨e1, e2, _⟩ := rcb_fit h.2.1.2.2.1 hf
  obtain ⟨q1, q2, q3, q4, q5, q6⟩ := hf
  obtain ⟨z1, z2, z3⟩ := fnd_mem q1
  have := (h.1.1.2.1 x z1).2.1.2
  rw [z2] at this
  rw [e1, e2]
  exact ⟨rfl, by omega, by omega, q5, this⟩
theorem need_eq (h : Rel t V S ps) : nedV V = nI (8 + 4 * (dNum V.1.1).length + pk V.1.2.2.2.2.1.toNatClampNeg (srtA V.2.1) none) ∧ needM S V.1.1 V.2.1 = nI (8 + 4 * (dNum V.1.1).length + pk V.1.2.2.2.2.1.toNatClampNeg (srtA V.2.1) none) := by
  have hfm := h.1.1.2.2.2.1
  have hal : ∀ f, f ∈ V.1.1 → f.1 < V.1.2.2.2.2.2 := by
    intro f hf
    rw [Int32.lt_iff_toInt_lt]
    exact (h.1.1.2.1 f hf).2.1.2
  constructor
  · unfold nedV
    rw [fcnt_nat, inp_all hal, Int32.zero_add]
    have e8 : (8 : Int32) + 4 * nI (dNum V.1.1).length = nI (8 + 4 * (dNum V.1.1).length) := by
      rw [nI_4]
      exact nI_add 8 _
    rw [e8]
    have := nedL_pk (rs := V.2.1) (fm := V.1.2.2.2.2.1) (al := V.1.2.2.2.2.2) h.1.2.1.1 (fun r hr => by
      rw [Int32.lt_iff_toInt_lt]
      exact (rel_rcb h hr).2.2.2.2) (by omega) (fun r hr => by
      obtain ⟨a, b, c, _⟩ := rel_rcb h hr
      exact ⟨a, b, c⟩) (srtA V.2.1) [] V.2.1.length (8 + 4 * (dNum V.1.1).length) 0 none rfl (fun _ => rfl) (fun p r0 q => absurd q (by simp)) (by rw [srtA_len]; exact Nat.le_refl _) (by omega)
    exact this
  · unfold needM
    rw [h.2.1.1.1.2.1]
    have e8 : (8 : Int32) + 4 * nI (dNum V.1.1).length = nI (8 + 4 * (dNum V.1.1).length) := by
      rw [nI_4]
      exact nI_add 8 _
    rw [e8]
    have hl := h.2.1.2.2.2.2.1.1.2
    have := nedS_pk (fm := V.1.2.2.2.2.1) (by omega) (srtA V.2.1) (8 + 4 * (dNum V.1.1).length) 0 0 (fun r hr => by
      obtain ⟨a, b, c, d, _⟩ := rel_rcb h (srtA_mem.mp hr)
      exact ⟨a, b, c, d⟩) (by omega) (fun _ => rfl) (by rw [srtA_len]; omega)
    rw [if_pos rfl, Nat.add_zero] at this
    exact this
theorem r_mergeBegin {k : Int32 → M α} {Q : α → MS → Prop} (hM : Mk m g) (h : Rel t V S ps) (hk : ∀ S' ps', Rel t (sMBeg V).2.1 S' ps' → S'.1 0 = th2 (fun j => if j = 1 then 1 else 2) (sMBeg V).1 → okM m g (k (vl (sMBeg V).1)) S' Q) : okM m g (bd (X9_mergeBegin m) k) S Q := by
  have h0 := h
  have e23 := h.2.1.1.1.2.2.2.2.2
  obtain ⟨n1, n2⟩ := need_eq h
  obtain ⟨⟨⟨f1, f2, f3, f4, f5, f6⟩, hW, hC⟩, ⟨hRS, hArr, r1, r2, r3, r4, r5⟩, ⟨hP, hP0⟩, hMm⟩ := h
  have hal : ∀ f, f ∈ V.1.1 → f.1 < V.1.2.2.2.2.2 := by
    intro f hf
    rw [Int32.lt_iff_toInt_lt]
    exact (f2 f hf).2.1.2
  have hcnt : fcnt V.1.2.2.2.2.2 0 V.1.1 = nI (dNum V.1.1).length := by
    rw [fcnt_nat, inp_all hal, Int32.zero_add]
  have hdl := dNum_len (fs := V.1.1)
  have hcond : (S.1 23 = 0 ∨ 0 < S.1 34) ↔ (V.2.2.2.2.1.1 = 0 ∨ ¬ V.2.2.1.1 = 0) := by
    rw [e23]
    have : 0 < S.1 34 ↔ ¬ V.2.2.1.1 = 0 := by
      rcases hMm with d | d | d
      · rw [d.1, d.2.1]
        decide
      · rw [d.1, d.2.2.1]
        decide
      · rw [d.1, d.2.2.1]
        decide
    rw [this]
  have hroom : S.1 1 - S.1 4 = froom V.1.2.2.2.1 V.1.1 := by
    rw [hRS.1.1, r1.1.2.1, froom_nat]
  unfold sMBeg at hk
  refine m_mergeBegin hM r1 r3 hW.1 hArr.2.1 hArr.2.2.2 (fun c => ?_) (fun c c2 => ?_) (fun c c2 c3 S' q1 q2 q3 q4 => ?_) (fun c c2 c3 S' hB => ?_)
  · rw [if_pos (hcond.mp c)] at hk
    exact hk _ ps (rel_0 h0) rfl
  · rw [if_neg (fun q => c (hcond.mpr q)), hcnt, c2, if_pos (show nI ([] : List Int32).length = 0 from rfl)] at hk
    exact hk _ ps (rel_0 h0) rfl
  · have hne : ¬ nI (dNum V.1.1).length = 0 := fun q => c2 (List.length_eq_zero_iff.mp ((nI_eq0 (by omega)).mp q))
    rw [hroom, n2, ← n1] at c3
    rw [if_neg (fun q => c (hcond.mpr q)), hcnt, if_neg hne, if_pos c3] at hk
    have eJ : ∀ j, j ∉ [0, 36, 42, 43, 45] → S'.1 j = S.1 j := q4.1
    refine hk S' ps ⟨⟨⟨f1, f2, f3, f4, f5, f6⟩, hW, hC⟩, ⟨?_, ⟨drOk_fr hArr.1 q4 (by decide), q2, ?_, q3⟩, repF_fr r1 q4 (by decide) (by decide) (by decide) (by decide) (by decide) (by decide), repP_fr r2 q4 (by decide) (by decide) (by decide) (by decide), repR_fr r3 q4 (by decide) (fun q u1 u2 => by simp only [List.mem_cons, List.not_mem_nil, or_false]; omega), repT_fr r4 q4 (by decide) (by decide), repA_fr r5 q4 (by decide) (by decide)⟩, ⟨hP, hP0⟩, ?_⟩ q1
    · unfold RelS
      rw [eJ 1 (by decide), eJ 2 (by decide), eJ 24 (by decide), eJ 25 (by decide), eJ 26 (by decide), eJ 23 (by decide), eJ 19 (by decide), eJ 20 (by decide), eJ 21 (by decide), eJ 22 (by decide)]
      exact hRS
    · unfold oLen
      rw [q4.2 22 (by decide), q4.2 23 (by decide), q4.2 24 (by decide), q4.2 25 (by decide), q4.2 26 (by decide)]
      exact hArr.2.2.1
    · have hm0 : M0 V S := by
        rcases hMm with d | d | d
        · exact d
        · exact absurd (hcond.mpr (Or.inr (by rw [d.1]; decide))) c
        · exact absurd (hcond.mpr (Or.inr (by rw [d.1]; decide))) c
      exact Or.inl (m0_fr hm0 q4 (by decide) (by decide))
  · have hne : ¬ nI (dNum V.1.1).length = 0 := fun q => c2 (List.length_eq_zero_iff.mp ((nI_eq0 (by omega)).mp q))
    rw [hroom, n2, ← n1] at c3
    rw [if_neg (fun q => c (hcond.mpr q)), hcnt, if_neg hne, if_neg c3] at hk
    obtain ⟨b1, b2, ⟨b3, b4, b5, b6, b7, b8, b9, b10, b11⟩, b12⟩ := hB
    have eJ : ∀ j, j ∉ [0, 26, 34, 35, 36, 37, 42, 43, 45, 46, 53] → S'.1 j = S.1 j := b12.1
    have hop : V.2.2.2.2.1.1 = 1 := hC.1.resolve_left (fun q => c (hcond.mpr (Or.inl q)))
    have hno : ∀ f, f ∈ V.1.1 → ¬ f.2.1 = 2 := by
      rcases hMm with d | d | d
      · exact d.2.2.2.2.2.2 (by rw [hop]; decide)
      · exact absurd (hcond.mpr (Or.inr (by rw [d.1]; decide))) c
      · exact absurd (hcond.mpr (Or.inr (by rw [d.1]; decide))) c
    have eV : sStart (nedV V) (si1109 (-1) V) = (V.1, V.2.1, (1, V.1.2.2.2.2.2, -1, -1, V.2.2.1.2.2.2.2.1, nedV V, V.2.2.1.2.2.2.2.2.2), V.2.2.2.1, (V.2.2.2.2.1.1, -1, V.2.2.2.2.1.2.2.1, V.2.2.2.2.1.2.2.2.1, V.2.2.2.2.1.2.2.2.2), V.2.2.2.2.2) := rfl
    have hpk := pkk_le V.1.2.2.2.2.1.toNatClampNeg (srtA V.2.1) none (fun r hr => by
      obtain ⟨_, _, c, d, _⟩ := rel_rcb h0 (srtA_mem.mp hr)
      exact ⟨c, d⟩)
    rw [srtA_len] at hpk
    have hrl := r3.1.2
    have hli : ∀ r, r ∈ V.2.1 → r.2.1 < V.1.2.2.2.2.2 := by
      intro r hr
      rw [Int32.lt_iff_toInt_lt]
      exact (rel_rcb h0 hr).2.2.2.2
    have hcap : ((totF V.1.1 + (8 + 4 * (dNum V.1.1).length + pk V.1.2.2.2.2.1.toNatClampNeg (srtA V.2.1) none) : Nat) : Int) ≤ V.1.2.2.2.1.toInt := by
      rw [froom_nat, n1, Int32.lt_iff_toInt_lt, Int32.toInt_sub, nI_toInt (by omega), nI_toInt (by omega), Int.bmod_eq_of_le (by omega) (by omega)] at c3
      omega
    have hR1 : Rel t (sStart (nedV V) (si1109 (-1) V)) S' ps := by
      rw [eV]
      refine ⟨⟨⟨f1, f2, f3, f4, f5, f6⟩, hW, ⟨hC.1, hC.2.1, hC.2.2.1, Or.inl rfl, fun q => absurd (hop.symm.trans q) (by decide), hC.2.2.2.2.2⟩⟩, ⟨?_, ⟨drOk_fr hArr.1 b12 (by decide), b1.2.1, ?_, b2.2.1⟩, repF_fr r1 b12 (by decide) (by decide) (by decide) (by decide) (by decide) (by decide), repP_fr r2 b12 (by decide) (by decide) (by decide) (by decide), repR_fr r3 b12 (by decide) (fun q u1 u2 => by simp only [List.mem_cons, List.not_mem_nil, or_false]; omega), repT_fr r4 b12 (by decide) (by decide), repA_fr r5 b12 (by decide) (by decide)⟩, ⟨hP, hP0⟩, Or.inr (Or.inl ⟨rfl, rfl, b7, b8, ⟨⟨hC.2.1.1, Int.le_refl _⟩, Or.inl rfl, ?_⟩, hno, srtA V.2.1, 0, [], _, ⟨b1, b4, Nat.zero_le _, srtA_srt hW.1, fun r hr => hli r (srtA_mem.mp hr), fun a b ha hb e => ?_, fun r hr => ?_, fun r hr _ => ?_⟩, ⟨?_, b11, by show inpL V.1.2.2.2.2.2 V.1.1 ≠ []; rw [inp_all hal]; exact c2⟩, fun q => absurd rfl q, n1, ?_, hcap, ?_⟩)⟩
      · obtain ⟨⟨s1, s2, s3, s4, s5, s6⟩, s7, s8, s9, s10⟩ := hRS
        refine ⟨⟨?_, ?_, ?_, ?_, b6, ?_⟩, ?_, ?_, ?_, ?_⟩
        · rw [eJ 1 (by decide)]
          exact s1
        · rw [eJ 2 (by decide)]
          exact s2
        · rw [eJ 24 (by decide)]
          exact s3
        · rw [eJ 25 (by decide)]
          exact s4
        · rw [eJ 23 (by decide)]
          exact s6
        · rw [eJ 19 (by decide)]
          exact s7
        · rw [eJ 20 (by decide)]
          exact s8
        · rw [eJ 21 (by decide)]
          exact s9
        · rw [eJ 22 (by decide)]
          exact s10
      · unfold oLen
        rw [b12.2 22 (by decide), b12.2 23 (by decide), b12.2 24 (by decide), b12.2 25 (by decide), b12.2 26 (by decide)]
        exact hArr.2.2.1
      · have : cnw V.1.2.2.2.2.2 V.2.1 = 0 := by
          unfold cnw
          rw [List.filter_eq_nil_iff.mpr (fun r hr q => by rw [decide_eq_true (hli r hr)] at q; cases q)]
          rfl
        show 15 * cnw V.1.2.2.2.2.2 V.2.1 ≤ _
        rw [this]
        exact Nat.zero_le _
      · have ha := srtR_mem hW.1 (srtA_mem.mp ha)
        have hb' := srtA_mem.mp hb
        have h1 := csg0_eq a.1 b.1 (row_nrm (r3.2.2 _ a ha) r3.2.1.2.2) (row_nrm (r3.2.2 _ b (srtR_mem hW.1 hb')) r3.2.1.2.2) e
        have h2 := srtR_mem hW.1 hb'
        rw [← h1, ha] at h2
        exact Option.some.inj h2
      · exact row_nrm (r3.2.2 _ r (srtR_mem hW.1 (srtA_mem.mp hr))) r3.2.1.2.2
      · rw [List.drop_zero]
        exact srtA_mem.mpr hr
      · show RepI S' (inpL V.1.2.2.2.2.2 V.1.1)
        rw [inp_all hal]
        exact b2
      · rw [b5, b10, n2, Int32.sub_zero]
      · unfold need1
        show 8 + 4 * (inpL V.1.2.2.2.2.2 V.1.1).length + (if (-1 : Int32) = -1 then 0 else (hiC []).length) + pk V.1.2.2.2.2.1.toNatClampNeg (remL V.2.1 (srtA V.2.1) 0) (oLv (-1) V.1.1) ≤ _
        rw [inp_all hal, if_pos rfl]
        have e1 : oLv (-1) V.1.1 = none := if_pos rfl
        rw [e1]
        have : (remL V.2.1 (srtA V.2.1) 0).Sublist (srtA V.2.1) := by
          unfold remL
          rw [List.drop_zero]
          exact List.filter_sublist
        have := pkk_sub (fm := V.1.2.2.2.2.1.toNatClampNeg) this none
        omega
    have hu := units_eq (ms := srtA V.2.1) (nl := 0) hR1 (fun _ => ⟨b1, b4, srtA_srt hW.1, fun r hr => hli r (srtA_mem.mp hr), fun a b ha hb e => by
      have ha := srtR_mem hW.1 (srtA_mem.mp ha)
      have hb' := srtA_mem.mp hb
      have h1 := csg0_eq a.1 b.1 (row_nrm (r3.2.2 _ a ha) r3.2.1.2.2) (row_nrm (r3.2.2 _ b (srtR_mem hW.1 hb')) r3.2.1.2.2) e
      have h2 := srtR_mem hW.1 hb'
      rw [← h1, ha] at h2
      exact Option.some.inj h2, fun r hr => row_nrm (r3.2.2 _ r (srtR_mem hW.1 (srtA_mem.mp hr))) r3.2.1.2.2, fun r hr _ => by
      rw [List.drop_zero]
      exact srtA_mem.mpr hr⟩)
    have hu : ulM S' V.2.1 (srtA V.2.1) 0 = _ := hu
    rw [hu]
    exact hk S' ps hR1 b3
end
