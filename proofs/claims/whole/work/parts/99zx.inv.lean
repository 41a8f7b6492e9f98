/-! room: what holds from call to call -/
theorem du_vk {V : VC} : (duV V).1.2.2.2.2.1 = V.2.2.2.2.1 := by
  have wh : (whV V).1.2.2.2.2.1 = V.2.2.2.2.1 := by
    unfold whV
    split <;> rfl
  unfold duV
  split
  · split
    · exact wh
    · rename_i jr _
      unfold cpV
      split
      · rfl
      · have n := nh_disk (jr.2.1, (cpA jr.2 V).1.2.2.1.2.2.1, cpP jr.2 V, jr.2.2.2.2.1, jr.2.2.2.2.2) (sRr (telR jr.1 (cpA jr.2 V).1.2.2.1.2.2.1 (cpP jr.2 V) jr.2.2.2.2.1 jr.2.2.2.2.2 V.2.1) (cpB jr.2 ‹AF› (cpA jr.2 V).1))
        have q := congrArg (fun x : VO × VK × VT => x.2.1) n.2.2.2.2.2.2.2
        refine Eq.trans q ?_
        show (cpA jr.2 V).1.2.2.2.2.1 = _
        unfold cpA
        split
        · exact wh
        · rfl
  · unfold rnV
    split
    · rfl
    · split <;> rfl
theorem itU_vk : ∀ (m : Nat) (V : VC), (itU m V).1.2.2.2.2.1 = V.2.2.2.2.1
  | 0, _ => rfl
  | m + 1, V => (itU_vk m (duV V).1).trans du_vk
theorem itU_fm : ∀ (m : Nat) (V : VC), fmV (itU m V).1 = fmV V
  | 0, _ => rfl
  | m + 1, V => (itU_fm m (duV V).1).trans fm_du
theorem e_mstep {t : Nat} {C : Int} {V : VC} {S : MS} {ps : List AV} (x : Int32) (h : RelB t C V S ps) : (Hm V (sMStep x V).2.1 ∧ (sMStep x V).2.2 = 0) ∨ (V.2.2.2.2.1.1 ≠ 0 ∧ V.2.2.1.1 ≠ 0 ∧ ∃ k, k ≤ uN V ∧ (sMStep x V).2 = itU k V) := by
  unfold sMStep
  split
  · exact Or.inl ⟨hm_rfl, rfl⟩
  · rename_i h1
    split
    · exact Or.inl ⟨hm_rfl, rfl⟩
    · rename_i h2
      refine Or.inr ⟨fun q => h1 (Or.inl q), fun q => h1 (Or.inr q), _, ?_, rfl⟩
      obtain ⟨u4, _⟩ := uN_le h
      rw [sU_uN]
      unfold imn
      by_cases z : nI (uN V) < x
      · rw [if_pos z, nI_clamp (by omega)]
        exact Nat.le_refl _
      · rw [if_neg z]
        rw [Int32.lt_iff_toInt_lt, nI_toInt (by omega)] at z
        have : x.toNatClampNeg = x.toInt.toNat := rfl
        omega
section
variable {V V' : VC} {j : Nat} {sz : List (Nat × Nat)}
theorem hm_fm (h : Hm V V') : fmV V' = fmV V := by
  unfold fmV
  rw [h.2.2.1]
theorem hm_MA (h : Hm V V') (hm : MA j sz V) : MA j sz V' := by
  have hf := hm_fm h
  obtain ⟨h1, h2, h3, h4, h5, h6, h7⟩ := h
  unfold MA PhA at hm ⊢
  rw [hf, h1, h2, h4, h5, h7]
  exact hm
theorem hm_MC (h : Hm V V') (hm : MC j sz V) : MC j sz V' := by
  have hf := hm_fm h
  obtain ⟨h1, h2, h3, h4, h5, h6, h7⟩ := h
  unfold MC PhC at hm ⊢
  rw [hf, h1, h2, h4, h5, h7]
  exact hm
theorem hm_MR (h : Hm V V') (hm : MR j sz V) : MR j sz V' := by
  have hf := hm_fm h
  obtain ⟨h1, h2, h3, h4, h5, h6, h7⟩ := h
  unfold MR RRs at hm ⊢
  rw [hf, h1, h2, h4, h5, h7]
  exact hm
end
def su1 : List (Nat × Nat) → Nat
  | [] => 0
  | x :: l => x.1 + su1 l
def su2 : List (Nat × Nat) → Nat
  | [] => 0
  | x :: l => x.2 + su2 l
theorem su_map : ∀ l : List AR, su1 (l.map se) = sm rcn l ∧ su2 (l.map se) = sm ecn l
  | [] => ⟨rfl, rfl⟩
  | r :: l => by
    obtain ⟨h1, h2⟩ := su_map l
    exact ⟨congrArg (rcn r + ·) h1, congrArg (ecn r + ·) h2⟩
theorem cnt_su (F : Nat) : ∀ (l : List (Nat × Nat)) (c h : Nat), (cnt F l c h).sum + 8 = c + h + su1 l + su2 l + 4 * (cnt F l c h).length
  | [], c, h => by
    show c + (h + 0) + 8 = c + h + 0 + 0 + 4 * 2
    omega
  | x :: l, c, h => by
    have e1 : su1 (x :: l) = x.1 + su1 l := rfl
    have e2 : su2 (x :: l) = x.2 + su2 l := rfl
    unfold cnt
    split
    · have := cnt_su F l (c + x.1) (h + x.2)
      omega
    · have := cnt_su F l x.1 (8 + x.2)
      rw [List.sum_cons, List.sum_cons, List.length_cons, List.length_cons]
      omega
theorem cn0_su (F : Nat) (sz : List (Nat × Nat)) : (cn0 F sz).sum = su1 sz + su2 sz + 4 * (cn0 F sz).length ∧ ((cn0 F sz).length = 0 ∨ 2 ≤ (cn0 F sz).length) := by
  cases sz with
  | nil => exact ⟨rfl, Or.inl rfl⟩
  | cons x l =>
    have h1 := cnt_su F l x.1 (8 + x.2)
    have e1 : su1 (x :: l) = x.1 + su1 l := rfl
    have e2 : su2 (x :: l) = x.2 + su2 l := rfl
    obtain ⟨K, hK⟩ := cnt_even F l x.1 (8 + x.2)
    have e3 : cn0 F (x :: l) = cnt F l x.1 (8 + x.2) := rfl
    rw [e3]
    omega
theorem tot_lens : ∀ fs : List AF, totF fs = (lens (shF fs)).sum
  | [] => rfl
  | f :: fs => by
    have := tot_lens fs
    show f.2.2.1.length + totF fs = f.2.2.1.length + (lens (shF fs)).sum
    omega
/-- the most that a merge of such a run costs -/
def Gs (F : Nat) (sz : List (Nat × Nat)) : Nat := 2 * ((cn0 F sz).sum + mrN (cn0 F sz)) + 2 * su1 sz
def Num (F : Nat) (sz : List (Nat × Nat)) (mk1 : Nat) : Prop := (cn0 F sz).sum + 4 * mk1 ≤ 22552 ∧ 15 * su1 sz ≤ 79 * su2 sz
theorem num_ar {F mk1 : Nat} {sz : List (Nat × Nat)} (h : Num F sz mk1) (hq : 2 * (cn0 F sz).sum + mrN (cn0 F sz) ≤ 16384) : 2 * Gs F sz + 2 * mk1 + 415 ≤ 26024 + 26400 * 2 ∧ 3 * Gs F sz + 2 * mk1 + 415 ≤ 26024 + 26400 * 3 ∧ 4 * Gs F sz + 2 * mk1 + 415 ≤ 26024 + 26400 * 4 ∧ 5 * Gs F sz + 2 * mk1 ≤ 158024 := by
  obtain ⟨h1, h2⟩ := h
  obtain ⟨h3, h4⟩ := cn0_su F sz
  unfold Gs mrN
  unfold mrN at hq
  omega
section
variable {t t' : Nat} {V : VC} {S S' : MS} {ps ps' : List AV} {C' : Int} {j : Nat} {sz : List (Nat × Nat)}
/-- a run's next merge -/
theorem mr_begin (h : Rel t V S ps) (h' : RelB t' C' (sStart (nedV V) (si1109 (-1) V)) S' ps') (hm : MR j sz V) : MA j sz (sStart (nedV V) (si1109 (-1) V)) ∧ Gr (sStart (nedV V) (si1109 (-1) V)) = Gs (fmV V) sz ∧ 2 * (cn0 (fmV V) sz).sum + mrN (cn0 (fmV V) sz) ≤ 16384 := by
  obtain ⟨A, psL, cop, hr, hS⟩ := hm
  obtain ⟨c1, c2, c3, ⟨c4, c5, c6⟩, ⟨c7, c8⟩, c9⟩ := hr
  have hA := phA_begin h c4 c5
  rw [← c6] at hA
  obtain ⟨g1, g2, _⟩ := mb_facts h h'
  have ecop : srtA V.2.1 = cop := srt_eq (srtA_srt h.1.2.1.1) c5 (fun r => by rw [srtA_mem]; exact c4 r)
  have e1 : (dNum V.1.1).length * 2 = (cn0 (fmV V) sz).length := by
    obtain ⟨K, k1, k2⟩ := prs_len c7
    rw [sh_data, c1, filt_jk c9, k2, ← c8]
    unfold lens
    rw [List.length_map, k1]
    omega
  have e2 : pk (fmV V) cop none = (cn0 (fmV V) sz).sum := by
    rw [c6, cn0_sum]
  have e3 : nedN V = (cn0 (fmV V) sz).sum + mrN (cn0 (fmV V) sz) := by
    unfold nedN mrN
    rw [ecop]
    have : pk V.1.2.2.2.2.1.toNatClampNeg cop none = (cn0 (fmV V) sz).sum := e2
    omega
  have e4 : sm rcn V.2.1 = su1 sz := by
    rw [c6, (su_map cop).1, ← ecop, sm_srt]
  have e5 : (cn0 (fmV V) sz).sum ≤ totF V.1.1 := by
    rw [tot_lens, c1, lens_app, List.sum_append, c8]
    omega
  refine ⟨⟨shF V.1.1, stk V.1.2.1, [], cop, [], [], hA, fun _ => ⟨A, psL, c1, c9, c7, c8, hS⟩⟩, ?_, by omega⟩
  rw [g1, e3, e4]
  rfl
/-- a run's first merge -/
theorem mf_begin (h : Rel t V S ps) (ht : t ≤ 512) (h' : RelB t' C' (sStart (nedV V) (si1109 (-1) V)) S' ps') : ∃ sz mk1, MA 0 sz (sStart (nedV V) (si1109 (-1) V)) ∧ Gr (sStart (nedV V) (si1109 (-1) V)) ≤ Gs (fmV V) sz + 2 * mk1 ∧ Num (fmV V) sz mk1 := by
  obtain ⟨g1, g2, g3, g4, g5, g6, _⟩ := mb_facts h h'
  have hA := phA_begin h (fun r => (srtA_mem (x := r) (rs := V.2.1)).symm) (srtA_srt h.1.2.1.1)
  have e2 : pk (fmV V) (srtA V.2.1) none = (cn0 (fmV V) ((srtA V.2.1).map se)).sum := (cn0_sum _ _).symm
  have e3 : nedN V = 8 + 4 * (dNum V.1.1).length + (cn0 (fmV V) ((srtA V.2.1).map se)).sum := by
    unfold nedN
    have : pk V.1.2.2.2.2.1.toNatClampNeg (srtA V.2.1) none = (cn0 (fmV V) ((srtA V.2.1).map se)).sum := e2
    omega
  have e4 : sm rcn V.2.1 = su1 ((srtA V.2.1).map se) := by rw [(su_map _).1, sm_srt]
  have e5 : sm ecn V.2.1 = su2 ((srtA V.2.1).map se) := by rw [(su_map _).2, sm_srt]
  have h1 := scnt_len V.1.1
  have h2 := h.1.2.2.2.2.2.2.2.1
  have h3 := dNum_len (fs := V.1.1)
  refine ⟨(srtA V.2.1).map se, 8 + 4 * (dNum V.1.1).length, ⟨shF V.1.1, stk V.1.2.1, [], srtA V.2.1, [], [], hA, fun q => absurd q (by decide)⟩, ?_, ?_, ?_⟩
  · unfold Gs
    omega
  · omega
  · omega
end
