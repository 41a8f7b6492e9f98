/-! the reference: numbers come to the draft -/
theorem b8_sar {v : Int32} (c : Int32) (k : Nat) (h1 : c.toBitVec.smod 32 = BitVec.ofNat 32 k) (h2 : (ush v c).toBitVec = v.toBitVec >>> k) (hk : k ≤ 24) : b8 (v >>> c) = b8 (ush v c) := by
  unfold b8
  congr 1
  apply Int8.toBitVec_inj.mp
  rw [Int32.toBitVec_toInt8, Int32.toBitVec_toInt8, h2, Int32.toBitVec_shiftRight, h1]
  apply BitVec.eq_of_getLsbD_eq
  intro i hi
  have e : (BitVec.ofNat 32 k).toNat = k := by
    rw [BitVec.toNat_ofNat]
    omega
  have n1 : ¬ 32 ≤ i := by omega
  have n2 : k + i < 32 := by omega
  show (BitVec.signExtend 8 (v.toBitVec.sshiftRight (BitVec.ofNat 32 k).toNat)).getLsbD i = _
  rw [e, BitVec.getLsbD_signExtend, BitVec.getLsbD_signExtend, BitVec.getLsbD_sshiftRight, BitVec.getLsbD_ushiftRight]
  have n3 : i < 32 := by omega
  have n4 : decide (32 ≤ i) = false := decide_eq_false n1
  simp only [if_pos n3, if_pos n2, n4, Bool.not_false, Bool.true_and]
theorem sar8 (v : Int32) : b8 (v >>> ((8 : Int32) * 1 &&& 31)) = b8 (ush v 8) := b8_sar (8 : Int32) 8 (by decide) rfl (by decide)
theorem sar16 (v : Int32) : b8 (v >>> ((8 : Int32) * 2 &&& 31)) = b8 (ush v 16) := b8_sar (16 : Int32) 16 (by decide) rfl (by decide)
theorem sar24 (v : Int32) : b8 (v >>> ((8 : Int32) * 3 &&& 31)) = b8 (ush v 24) := b8_sar (24 : Int32) 24 (by decide) rfl (by decide)
theorem sar0 (v : Int32) : b8 (v >>> ((8 : Int32) * 0 &&& 31)) = b8 v := by
  have e : v >>> ((8 : Int32) * 0 &&& 31) = v := by
    apply Int32.toBitVec_inj.mp
    rw [Int32.toBitVec_shiftRight, show ((8 : Int32) * 0 &&& 31).toBitVec.smod 32 = 0#32 from by decide]
    exact BitVec.sshiftRight_zero ..
  rw [e]
/-- the draft's row and its end -/
def dS (S : MS) (A : List Int32) (e : Nat) : MS := upI (upA S 8 A) 14 (nI e)
theorem dS_id {S : MS} {e : Nat} (h : S.1 14 = nI e) : dS S (S.2 8) e = S := by
  unfold dS upI upA
  show (va_up S.1 14 (nI e), va_up S.2 8 (S.2 8)) = S
  have e1 : va_up S.1 14 (nI e) = S.1 := by
    funext j
    unfold va_up
    split
    · rename_i q
      rw [q, h]
    · rfl
  have e2 : va_up S.2 8 (S.2 8) = S.2 := by
    funext j
    unfold va_up
    split
    · rename_i q
      rw [q]
    · rfl
  rw [e1, e2]
theorem dS_dS {S : MS} {A B : List Int32} {e f : Nat} : dS (dS S A e) B f = dS S B f := by
  unfold dS upI upA
  show (va_up (va_up S.1 14 (nI e)) 14 (nI f), va_up (va_up S.2 8 A) 8 B) = _
  rw [va_va, va_va]
theorem dS_I {S : MS} {A : List Int32} {e f : Nat} : upI (dS S A e) 14 (nI f) = dS S A f := by
  unfold dS upI
  show (va_up (va_up S.1 14 (nI e)) 14 (nI f), _) = _
  rw [va_va]
  rfl
theorem mfr_dS {S : MS} {A : List Int32} {e : Nat} : mfr [14] [8] S (dS S A e) := mfr_tr (mfr_A (by decide)) (mfr_I (by decide))
section
variable {m : Nat} {g : Gh} {S : MS} {α : Type}
theorem m_dr1 {w e : Nat} {v j : Int32} {A : List Int32} {Q : Unit → MS → Prop} (hM : Mk m g) (hj : ¬ j < 0) (he : e < A.length) (h : okM m g (X9_drafts_b4 w m v (j + (-1))) (dS S (A.set e (b8 (v >>> ((8 * j) &&& 31)))) (e + 1)) Q) : okM m g (X9_drafts_b4 (w + 1) m v j) (dS S A e) Q := by
  show okM m g (X9_drafts_b4b (X9_drafts_b4 w) m v j) (dS S A e) Q
  unfold X9_drafts_b4b
  refine oM_itF hj (oM_gR hM (oM_gI hM (oM_as (q := 8) (i := e) hM rfl he (oM_gI hM (oM_pI hM ?_)))))
  rw [if_pos rfl]
  have e2 : upI (upA (dS S A e) 8 (((dS S A e).2 8).set e ((v >>> ((8 * j) &&& 31)).toInt8.toInt32.toInt8.toInt32))) 14 (nI e + 1) = dS S (A.set e (b8 (v >>> ((8 * j) &&& 31)))) (e + 1) := by
    rw [nI_1]
    have q := b8_b8 (v >>> ((8 * j) &&& 31))
    unfold b8 at q
    rw [q]
    show (va_up (va_up S.1 14 (nI e)) 14 (nI (e + 1)), va_up (va_up S.2 8 A) 8 (A.set e _)) = _
    rw [va_va, va_va]
    rfl
  have e3 : okM m g (X9_drafts_b4 w m v (j + (-1))) (upI (upA (dS S A e) 8 (((dS S A e).2 8).set e ((v >>> ((8 * j) &&& 31)).toInt8.toInt32.toInt8.toInt32))) 14 (nI e + 1)) Q := by
    rw [e2]
    exact h
  exact e3
theorem m_dr0 {w : Nat} {v j : Int32} {Q : Unit → MS → Prop} (hj : j < 0) (h : Q () S) : okM m g (X9_drafts_b4 (w + 1) m v j) S Q := by
  show okM m g (X9_drafts_b4b (X9_drafts_b4 w) m v j) S Q
  unfold X9_drafts_b4b
  exact oM_itT hj (oM_pu h)
theorem wrt_1 {A : List Int32} {e : Nat} {x : Int32} (h : e < A.length) : A.set e x = wrt A e [x] := by
  have := wrt_step (A := A) (e := e) (l := [x]) (k := 0) (v := x) rfl (by simp only [List.length_cons, List.length_nil]; omega)
  rw [List.take_zero, wrt_nil, Nat.add_zero] at this
  exact this
theorem wrt_wrt {A l l' : List Int32} {e : Nat} (h : e + l.length + l'.length ≤ A.length) : wrt (wrt A e l) (e + l.length) l' = wrt A e (l ++ l') := by
  have l1 := wrt_len (A := A) (e := e) (l := l) (by omega)
  have l2 : (l ++ l').length = l.length + l'.length := List.length_append
  apply List.ext_getElem?
  intro j
  rw [wrt_get (by omega), wrt_get (by omega), wrt_get (by omega), l2]
  by_cases c1 : j < e
  · rw [if_pos (by omega), if_pos c1, if_pos c1]
  · rw [if_neg c1, if_neg c1]
    by_cases c2 : j < e + l.length
    · rw [if_pos c2, if_pos c2, if_pos (by omega), List.getElem?_append_left (by omega)]
    · rw [if_neg c2, if_neg c2]
      by_cases c3 : j < e + l.length + l'.length
      · rw [if_pos c3, if_pos (by omega), List.getElem?_append_right (by omega)]
        congr 1
        omega
      · rw [if_neg c3, if_neg (by omega)]
theorem m_drafts4 {e : Nat} {v : Int32} {A : List Int32} {k : Unit → M α} {Q : α → MS → Prop} (hM : Mk m g) (he : e + 4 ≤ A.length) (h : okM m g (k ()) (dS S (wrt A e (be4 v)) (e + 4)) Q) : okM m g (bd (X9_drafts m v 4) k) (dS S A e) Q := by
  refine oM_bd ?_
  unfold X9_drafts
  refine oM_bpu ?_
  obtain ⟨w, hw⟩ : ∃ w, FU = w + 1 + 1 + 1 + 1 + 1 := ⟨999995, rfl⟩
  rw [hw]
  have t1 : wrt A e (be4 v) = (((A.set e (b8 (ush v 24))).set (e + 1) (b8 (ush v 16))).set (e + 2) (b8 (ush v 8))).set (e + 3) (b8 v) := by
    have a0 := wrt_step (A := A) (e := e) (l := be4 v) (k := 0) (v := b8 (ush v 24)) rfl (by rw [be4_len]; exact he)
    have a1 := wrt_step (A := A) (e := e) (l := be4 v) (k := 1) (v := b8 (ush v 16)) rfl (by rw [be4_len]; exact he)
    have a2 := wrt_step (A := A) (e := e) (l := be4 v) (k := 2) (v := b8 (ush v 8)) rfl (by rw [be4_len]; exact he)
    have a3 := wrt_step (A := A) (e := e) (l := be4 v) (k := 3) (v := b8 v) rfl (by rw [be4_len]; exact he)
    rw [List.take_zero, wrt_nil, Nat.add_zero] at a0
    rw [a0, a1, a2, a3]
    rfl
  rw [t1] at h
  refine m_dr1 (j := 3) hM (by decide) (by omega) (m_dr1 (j := 2) hM (by decide) (by rw [List.length_set]; omega) (m_dr1 (j := 1) hM (by decide) (by rw [List.length_set, List.length_set]; omega) (m_dr1 (j := 0) hM (by decide) (by rw [List.length_set, List.length_set, List.length_set]; omega) (m_dr0 (by decide) ?_))))
  rw [sar0, sar8, sar16, sar24]
  exact h
theorem m_drafts2 {e : Nat} {v : Int32} {A : List Int32} {k : Unit → M α} {Q : α → MS → Prop} (hM : Mk m g) (he : e + 2 ≤ A.length) (h : okM m g (k ()) (dS S (wrt A e (be2 v)) (e + 2)) Q) : okM m g (bd (X9_drafts m v 2) k) (dS S A e) Q := by
  refine oM_bd ?_
  unfold X9_drafts
  refine oM_bpu ?_
  obtain ⟨w, hw⟩ : ∃ w, FU = w + 1 + 1 + 1 := ⟨999997, rfl⟩
  rw [hw]
  have t1 : wrt A e (be2 v) = (A.set e (b8 (ush v 8))).set (e + 1) (b8 v) := by
    have a0 := wrt_step (A := A) (e := e) (l := be2 v) (k := 0) (v := b8 (ush v 8)) rfl he
    have a1 := wrt_step (A := A) (e := e) (l := be2 v) (k := 1) (v := b8 v) rfl he
    rw [List.take_zero, wrt_nil, Nat.add_zero] at a0
    rw [a0, a1]
    rfl
  rw [t1] at h
  refine m_dr1 (j := 1) hM (by decide) (by omega) (m_dr1 (j := 0) hM (by decide) (by rw [List.length_set]; omega) (m_dr0 (by decide) ?_))
  rw [sar0, sar8]
  exact h
theorem m_drafts1 {e : Nat} {v : Int32} {A : List Int32} {k : Unit → M α} {Q : α → MS → Prop} (hM : Mk m g) (he : e + 1 ≤ A.length) (h : okM m g (k ()) (dS S (wrt A e [b8 v]) (e + 1)) Q) : okM m g (bd (X9_drafts m v 1) k) (dS S A e) Q := by
  refine oM_bd ?_
  unfold X9_drafts
  refine oM_bpu ?_
  obtain ⟨w, hw⟩ : ∃ w, FU = w + 1 + 1 := ⟨999998, rfl⟩
  rw [hw]
  rw [← wrt_1 he] at h
  refine m_dr1 (j := 0) hM (by decide) (by omega) (m_dr0 (by decide) ?_)
  rw [sar0]
  exact h
/-- a number of two bytes -/
def n2 (a b : Int32) : Int32 := ((((a &&& 255) <<< (8 &&& 31)) ||| (b &&& 255)) : Int32).toInt16.toInt32
theorem m_number2 {Q : α → MS → Prop} {q i : Nat} {x : Int32} {k : Int32 → M α} {a b : Int32} (hM : Mk m g) (hx : x = nI i) (ha : (S.2 q)[i]? = some a) (hb : (S.2 q)[i + 1]? = some b) (h : okM m g (k (n2 a b)) S Q) (h1 : 1 ≤ q := by decide) (h2 : q ≤ 26 := by decide) (hk : knd q = 21 := by rfl) : okM m g (bd (X9_number2 (m + q) x) k) S Q := by
  subst hx
  refine oM_bd ?_
  unfold X9_number2
  exact oM_al hM rfl ha (oM_al hM (nI_add i 1) hb (oM_pu h) h1 h2 hk) h1 h2 hk
end
