/-! the reference: the tape, the answer -/
theorem b8_sarL {x : Int64} (c : Int64) (y : Int32) (k : Nat) (h1 : c.toBitVec.smod 64 = BitVec.ofNat 64 k) (h2 : (lush x y).toBitVec = x.toBitVec >>> k) (hk : k ≤ 56) : b8 (x >>> c).toInt32 = b8 (lush x y).toInt32 := by
  unfold b8
  congr 1
  apply Int8.toBitVec_inj.mp
  rw [Int32.toBitVec_toInt8, Int32.toBitVec_toInt8, Int64.toBitVec_toInt32, Int64.toBitVec_toInt32, h2, Int64.toBitVec_shiftRight, h1]
  apply BitVec.eq_of_getLsbD_eq
  intro i hi
  have e : (BitVec.ofNat 64 k).toNat = k := by
    rw [BitVec.toNat_ofNat]
    omega
  have n0 : i < 32 := by omega
  have n1 : ¬ 64 ≤ i := by omega
  have n2 : k + i < 64 := by omega
  show (BitVec.signExtend 8 (BitVec.signExtend 32 (x.toBitVec.sshiftRight (BitVec.ofNat 64 k).toNat))).getLsbD i = _
  have n3 : i < 64 := by omega
  have n4 : decide (64 ≤ i) = false := decide_eq_false n1
  simp only [e, BitVec.getLsbD_signExtend, BitVec.getLsbD_sshiftRight, BitVec.getLsbD_ushiftRight, if_pos n0, if_pos n3, if_pos n2, n4, Bool.not_false, Bool.true_and]
theorem lush_bv {x : Int64} {y : Int32} (k : Nat) (h : ((y.toInt64.toUInt64 &&& Int64.toUInt64 63).toBitVec % 64).toNat = k) : (lush x y).toBitVec = x.toBitVec >>> k := by
  unfold lush
  show (x.toUInt64 >>> (y.toInt64.toUInt64 &&& Int64.toUInt64 63)).toBitVec = _
  rw [UInt64.toBitVec_shiftRight]
  show x.toBitVec >>> ((y.toInt64.toUInt64 &&& Int64.toUInt64 63).toBitVec % 64).toNat = _
  rw [h]
theorem fdb_lo (a b : Int64) {i : Nat} (hi : i < 8) : fdb a b i = b8 ((a >>> (((8 * nI i) : Int32).toInt64 &&& 63))).toInt32 := by
  unfold fdb
  rw [if_neg (by omega)]
  have d1 : ∀ j : Fin 8, ((((8 * nI j.1) : Int32).toInt64 &&& 63)).toBitVec.smod 64 = BitVec.ofNat 64 (8 * j.1) := by decide
  have d2 : ∀ j : Fin 8, (((8 * (nI j.1 &&& 7)).toInt64.toUInt64 &&& Int64.toUInt64 63).toBitVec % 64).toNat = 8 * j.1 := by decide
  exact (b8_sarL _ _ (8 * i) (d1 ⟨i, hi⟩) (lush_bv _ (d2 ⟨i, hi⟩)) (by omega)).symm
theorem fdb_hi (a b : Int64) {i : Nat} (h8 : 8 ≤ i) (hi : i < 16) : fdb a b i = b8 ((b >>> (((8 * (nI i - 8)) : Int32).toInt64 &&& 63))).toInt32 := by
  unfold fdb
  rw [if_pos h8]
  have d1 : ∀ j : Fin 8, ((((8 * (nI (j.1 + 8) - 8)) : Int32).toInt64 &&& 63)).toBitVec.smod 64 = BitVec.ofNat 64 (8 * j.1) := by decide
  have d2 : ∀ j : Fin 8, (((8 * (nI (j.1 + 8) &&& 7)).toInt64.toUInt64 &&& Int64.toUInt64 63).toBitVec % 64).toNat = 8 * j.1 := by decide
  obtain ⟨j, ej⟩ : ∃ j, i = j + 8 := ⟨i - 8, by omega⟩
  subst ej
  exact (b8_sarL _ _ (8 * j) (d1 ⟨j, by omega⟩) (lush_bv _ (d2 ⟨j, by omega⟩)) (by omega)).symm
/-- the tape -/
def RepT (S : MS) (tp : List Int32) : Prop := S.1 16 = nI tp.length ∧ tp.length ≤ 80 ∧ (S.2 9).length = 80 ∧ (S.2 9).take tp.length = tp ∧ nrm (S.2 9)
/-- the answer -/
def RepA (S : MS) (fd : List Int32) : Prop := S.1 18 = nI fd.length ∧ fd.length ≤ 64 ∧ (S.2 10).length = 64 ∧ (S.2 10).take fd.length = fd
theorem repT_fr {S S' : MS} {tp : List Int32} {J K : List Nat} (h : RepT S tp) (hf : mfr J K S S') (h16 : 16 ∉ J) (h9 : 9 ∉ K) : RepT S' tp := by
  unfold RepT at *
  rw [hf.1 16 h16, hf.2 9 h9]
  exact h
theorem repA_fr {S S' : MS} {fd : List Int32} {J K : List Nat} (h : RepA S fd) (hf : mfr J K S S') (h18 : 18 ∉ J) (h10 : 10 ∉ K) : RepA S' fd := by
  unfold RepA at *
  rw [hf.1 18 h18, hf.2 10 h10]
  exact h
section
variable {m : Nat} {g : Gh} {S : MS} {α : Type}
def tS (S : MS) (A : List Int32) (e : Nat) : MS := upI (upA S 9 A) 16 (nI e)
theorem take_wrt {A l : List Int32} {e : Nat} (h : e + l.length ≤ A.length) : (wrt A e l).take (e + l.length) = A.take e ++ l := by
  unfold wrt
  have l1 : (A.take e).length = e := by rw [List.length_take]; omega
  rw [List.take_append_of_le_length (by rw [List.length_append]; omega)]
  exact List.take_of_length_le (by rw [List.length_append]; omega)
theorem m_feed_loop {n e : Nat} {a b : Int64} {A : List Int32} {Q : Int32 → MS → Prop} (hM : Mk m g) (hn : n ≤ 16) (hA : e + n ≤ A.length) (hl : A.length = 80) (hq : Q (nI (e + n)) (tS S (wrt A e ((List.range n).map (fdb a b))) (e + n))) : ∀ (w i : Nat), n - i < w → i ≤ n → okM m g (X9_feed_b47 w m (nI n) a b (nI i)) (tS S (wrt A e (((List.range n).map (fdb a b)).take i)) (e + i)) Q := by
  have ln : ((List.range n).map (fdb a b)).length = n := by rw [List.length_map, List.length_range]
  intro w
  induction w with
  | zero => intro i h; omega
  | succ w ih =>
    intro i hw hi
    show okM m g (X9_feed_b47b (X9_feed_b47 w) m (nI n) a b (nI i)) _ Q
    unfold X9_feed_b47b X9_feed_b89
    have lt : (((List.range n).map (fdb a b)).take i).length = i := by rw [List.length_take]; omega
    have lw := wrt_len (A := A) (e := e) (l := ((List.range n).map (fdb a b)).take i) (by omega)
    by_cases c : i < n
    · have hv : ((List.range n).map (fdb a b))[i]? = some (fdb a b i) := by
        rw [List.getElem?_map, List.getElem?_range c]
        rfl
      have fin : ∀ z : Int32, b8 z = fdb a b i → okM m g (bd (as 21 (m + 9) (nI (e + i)) z.toInt8.toInt32) (fun _ => bd (gI 12 16 m) (fun x1 => bd (pV 12 16 m (.int (x1 + 1))) (fun _ => X9_feed_b47 w m (nI n) a b (nI i + 1))))) (tS S (wrt A e (((List.range n).map (fdb a b)).take i)) (e + i)) Q := by
        intro z hz
        refine oM_as (q := 9) (i := e + i) hM rfl ?_ (oM_gI hM (oM_pI hM ?_))
        · show e + i < (wrt A e (((List.range n).map (fdb a b)).take i)).length
          omega
        · rw [if_pos rfl]
          have q := b8_b8 z
          rw [hz] at q
          have q2 : z.toInt8.toInt32.toInt8.toInt32 = fdb a b i := (congrArg b8 hz).trans q
          rw [q2, nI_1]
          have e2 : upI (upA (tS S (wrt A e (((List.range n).map (fdb a b)).take i)) (e + i)) 9 (((tS S (wrt A e (((List.range n).map (fdb a b)).take i)) (e + i)).2 9).set (e + i) (fdb a b i))) 16 (nI (e + i) + 1) = tS S (wrt A e (((List.range n).map (fdb a b)).take (i + 1))) (e + (i + 1)) := by
            rw [nI_1]
            show (va_up (va_up S.1 16 (nI (e + i))) 16 (nI (e + i + 1)), va_up (va_up S.2 9 _) 9 ((wrt A e (((List.range n).map (fdb a b)).take i)).set (e + i) (fdb a b i))) = _
            rw [va_va, va_va, wrt_step hv (by omega)]
            rfl
          have e3 : okM m g (X9_feed_b47 w m (nI n) a b (nI (i + 1))) (upI (upA (tS S (wrt A e (((List.range n).map (fdb a b)).take i)) (e + i)) 9 (((tS S (wrt A e (((List.range n).map (fdb a b)).take i)) (e + i)).2 9).set (e + i) (fdb a b i))) 16 (nI (e + i) + 1)) Q := by
            rw [e2]
            exact ih (i + 1) (by omega) (by omega)
          exact e3
      refine oM_itF (nI_ge c (by omega)) (oM_gR hM (oM_gI hM ?_))
      by_cases c8 : 8 ≤ i
      · exact oM_itT (nI_le c8 (by omega)) (fin _ (fdb_hi a b c8 (by omega)).symm)
      · exact oM_itF (nI_ge (a := i) (b := 8) (by omega) (by decide)) (fin _ (fdb_lo a b (by omega)).symm)
    · have ei : i = n := by omega
      subst ei
      rw [List.take_of_length_le (by omega)]
      exact oM_itT (nI_le (Nat.le_refl _) (by omega)) (oM_gI hM (oM_pu hq))
theorem m_feed {x : Int32} {a b : Int64} {tp : List Int32} {k : Int32 → M α} {Q : α → MS → Prop} (hM : Mk m g) (hT : RepT S tp) (h1 : (x < 1 ∨ 16 < x) → okM m g (k 0) (upI S 0 1) Q) (h2 : ¬ (x < 1 ∨ 16 < x) → 80 < nI tp.length + x → okM m g (k 0) (upI S 0 2) Q) (h3 : ∀ S', ¬ (x < 1 ∨ 16 < x) → ¬ 80 < nI tp.length + x → RepT S' (tp ++ (List.range x.toNatClampNeg).map (fdb a b)) → S'.1 0 = 0 → mfr [0, 16] [9] S S' → okM m g (k (nI (tp.length + x.toNatClampNeg))) S' Q) : okM m g (bd (X9_feed m x a b) k) S Q := by
  refine oM_bd ?_
  unfold X9_feed X9_feed_b12 X9_feed_b32
  have bad : (x < 1 ∨ 16 < x) → okM m g (bd (pV 12 0 m (.int 1)) (fun _ => bd (gI 12 0 m) (fun x1 => it (x1 ≤ 0) (X9_feed_b47 FU m x a b 0) (pu 0)))) S (fun v S1 => okM m g (k v) S1 Q) := fun q => oM_pI hM (oM_gI hM (oM_itF (show ¬ (1 : Int32) ≤ 0 by decide) (oM_pu (h1 q))))
  by_cases c1 : x < 1
  · exact oM_itT c1 (bad (Or.inl c1))
  refine oM_itF c1 ?_
  by_cases c2 : 16 < x
  · exact oM_itF (Int32.not_le.mpr c2) (bad (Or.inr c2))
  have c12 : ¬ (x < 1 ∨ 16 < x) := fun q => q.elim c1 c2
  refine oM_itT (Int32.not_lt.mp c2) (oM_gI hM ?_)
  rw [hT.1]
  by_cases c3 : 80 < nI tp.length + x
  · exact oM_itF (Int32.not_le.mpr c3) (oM_pI hM (oM_gI hM (oM_itF (show ¬ (2 : Int32) ≤ 0 by decide) (oM_pu (h2 c12 c3)))))
  · have hx0 : ¬ x < 0 := by
      rw [Int32.lt_iff_toInt_lt] at c1 ⊢
      rw [show (1 : Int32).toInt = 1 from rfl] at c1
      rw [Int32.toInt_zero]
      omega
    obtain ⟨n, en⟩ : ∃ n, x.toNatClampNeg = n := ⟨_, rfl⟩
    have ex : x = nI n := by rw [← en]; exact nI_cl hx0
    have hn31 : n < 2 ^ 31 := by rw [← en]; exact clamp_lt x
    have h80 := hT.2.1
    have hn : n ≤ 16 := by
      rw [ex, Int32.lt_iff_toInt_lt, nI_toInt hn31, show (16 : Int32).toInt = 16 from rfl] at c2
      omega
    have hs : tp.length + n ≤ 80 := by
      rw [ex, nI_add, Int32.lt_iff_toInt_lt, nI_toInt (by omega), show (80 : Int32).toInt = 80 from rfl] at c3
      omega
    rw [en] at h3
    have ln : ((List.range n).map (fdb a b)).length = n := by rw [List.length_map, List.length_range]
    refine oM_itT (Int32.not_lt.mp c3) (oM_pI hM (oM_gI hM (oM_itT (show (0 : Int32) ≤ 0 by decide) ?_)))
    have lp := m_feed_loop (S := upI S 0 0) (n := n) (e := tp.length) (a := a) (b := b) (A := S.2 9) (Q := fun v S1 => okM m g (k v) S1 Q) hM hn (by rw [hT.2.2.1]; omega) hT.2.2.1 (h3 _ c12 c3 ⟨?_, ?_, ?_, ?_, ?_⟩ rfl ?_) FU 0 (by have : FU = 1000000 := rfl; omega) (Nat.zero_le _)
    · rw [List.take_zero, wrt_nil, Nat.add_zero] at lp
      have e0 : tS (upI S 0 0) (S.2 9) tp.length = upI S 0 0 := by
        unfold tS upI upA
        show (va_up (va_up S.1 0 0) 16 (nI tp.length), va_up S.2 9 (S.2 9)) = (va_up S.1 0 0, S.2)
        have e1 : va_up (va_up S.1 0 0) 16 (nI tp.length) = va_up S.1 0 0 := by
          funext j
          unfold va_up
          by_cases q : j = 16
          · subst q
            exact hT.1.symm
          · rw [if_neg q]
        have e2 : va_up S.2 9 (S.2 9) = S.2 := by
          funext j
          unfold va_up
          split
          · rename_i q
            rw [q]
          · rfl
        rw [e1, e2]
      rw [e0] at lp
      rw [ex]
      exact lp
    · show nI (tp.length + n) = _
      rw [List.length_append, ln]
    · rw [List.length_append, ln]
      exact hs
    · show (wrt (S.2 9) tp.length ((List.range n).map (fdb a b))).length = 80
      rw [wrt_len (by rw [hT.2.2.1, ln]; exact hs), hT.2.2.1]
    · show (wrt (S.2 9) tp.length ((List.range n).map (fdb a b))).take _ = _
      rw [List.length_append, take_wrt (by rw [hT.2.2.1, ln]; exact hs), hT.2.2.2.1]
    · show nrm (wrt (S.2 9) tp.length ((List.range n).map (fdb a b)))
      refine nrm_wrt hT.2.2.2.2 (fun v hv => ?_)
      obtain ⟨j, _, hj⟩ := List.mem_map.mp hv
      rw [← hj]
      exact b8_b8 _
    · exact mfr_tr (mfr_tr (mfr_I (by decide)) (mfr_A (by decide))) (mfr_I (by decide))
theorem m_answer {x : Int32} {fd : List Int32} {k : Int32 → M α} {Q : α → MS → Prop} (hM : Mk m g) (hA : RepA S fd) (h : okM m g (k (bat fd x)) (upI S 0 0) Q) : okM m g (bd (X9_answer m x) k) S Q := by
  refine oM_bd ?_
  unfold X9_answer X9_answer_b17
  unfold bat at h
  refine oM_pI hM ?_
  by_cases c1 : x < 0
  · rw [if_pos c1] at h
    exact oM_itT c1 (oM_pu h)
  rw [if_neg c1] at h
  refine oM_itF c1 (oM_gI hM ?_)
  rw [show (upI S 0 0).1 18 = S.1 18 from rfl, hA.1]
  by_cases c2 : nI fd.length ≤ x
  · rw [if_pos c2] at h
    exact oM_itF (Int32.not_lt.mpr c2) (oM_pu h)
  · rw [if_neg c2] at h
    have ex := nI_cl c1
    have hl := hA.2.1
    have hlt : x.toNatClampNeg < fd.length := by
      have h31 := clamp_lt x
      rw [ex, Int32.le_iff_toInt_le, nI_toInt (by omega), nI_toInt h31] at c2
      omega
    have hv : ((upI S 0 0).2 10)[x.toNatClampNeg]? = some (fd.getD x.toNatClampNeg 0) := pre_get (A := S.2 10) hA.2.2.2 (getD_some hlt)
    exact oM_itT (Int32.not_le.mp c2) (oM_gR hM (oM_al (q := 10) hM ex hv (oM_pu h)))
end
