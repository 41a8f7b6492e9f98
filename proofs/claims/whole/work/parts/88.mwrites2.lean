/-! the reference: writing -/
section
variable {m : Nat} {g : Gh} {S : MS} {α : Type} {rs : List AR} {fs : List AF} {ps : List AV}
def wNew (S : MS) (fs : List AF) (n : Nat) : Bool := decide (S.1 26 = -1 ∨ S.1 2 < nI (szF (S.1 26) 0 fs) + nI n)
def wAct (S : MS) (fs : List AF) (n : Nat) : Int32 := if wNew S fs n = true then S.1 24 else S.1 26
def wPl (S : MS) (fs : List AF) (n : Nat) : Int32 := if wNew S fs n = true then 0 else nI (szF (S.1 26) 0 fs)
def wNum (S : MS) (fs : List AF) (n : Nat) : Int32 := if wNew S fs n = true then S.1 24 + 1 else S.1 24
theorem m_w50 {kn : Nat} {sv : List Nat} {vs : Int32} {tk : List Int32} {Q : Unit → MS → Prop} (hM : Mk m g) (hF : RepF S fs) (hS : SrtF fs) (hP : RepP S ps) (hR : RepR S rs) (hT : tOk S tk) (hD : drOk S) (hkn : kn ≤ tk.length) (hk16 : kn ≤ 16) (hl : fs.length < 4000) (hps : ps.length < 4100) (ht : totF fs + (14 + tk.length) ≤ 16384) (hrs : rs.length < 1199) (hfind : vs < 0 → plR (tk.take kn) rs < rs.length)
    (hq : ∀ S', RepF S' (appF (S.1 26) 0 (recB (S.1 25) (nI kn) vs tk) fs sv).1 → RepP S' (ps ++ [(S.1 26, 0, nI (14 + tk.length))]) → RepR S' (wrR (tk.take kn) (S.1 26) (nI (szF (S.1 26) 0 fs)) vs (S.1 25) rs) → S'.1 25 = S.1 25 + 1 → drOk S' → mfr [4, 8, 12, 14, 25, 33] [1, 2, 3, 4, 5, 6, 7, 8, 11, 12, 13, 14, 15, 16] S S' → Q () S') : okM m g (X9_writes_b50 m (nI kn) vs (nI (14 + tk.length))) S Q := by
  unfold X9_writes_b50
  have hA := hD.1
  refine oM_gI hM (oM_ck hM (m_sizeOf hM hF hS (oM_pI hM (oM_gI hM (oM_ck hM ?_)))))
  have e0 : upI S 14 4 = dS S (S.2 8) 4 := by
    have q : upA S 8 (S.2 8) = S := by
      show (S.1, va_up S.2 8 (S.2 8)) = S
      have : va_up S.2 8 (S.2 8) = S.2 := by
        funext j
        unfold va_up
        split
        · rename_i q
          rw [q]
        · rfl
      rw [this]
    unfold dS
    rw [q]
    rfl
  have e25 : (upI S 14 4).1 25 = S.1 25 := rfl
  rw [e25, e0]
  have l1 := wrt_len (A := S.2 8) (e := 4) (l := be4 (S.1 25)) (by rw [be4_len]; omega)
  have l2 := wrt_len (A := wrt (S.2 8) 4 (be4 (S.1 25))) (e := 8) (l := be2 (nI kn)) (by rw [be2_len]; omega)
  have w1 : wrt (wrt (S.2 8) 4 (be4 (S.1 25))) 8 (be2 (nI kn)) = wrt (S.2 8) 4 (be4 (S.1 25) ++ be2 (nI kn)) := wrt_wrt (by rw [be4_len, be2_len]; omega)
  have w2 : wrt (wrt (S.2 8) 4 (be4 (S.1 25) ++ be2 (nI kn))) 10 (be4 vs) = wrt (S.2 8) 4 (be4 (S.1 25) ++ be2 (nI kn) ++ be4 vs) := wrt_wrt (l := be4 (S.1 25) ++ be2 (nI kn)) (by rw [List.length_append, be4_len, be2_len, be4_len]; omega)
  refine m_drafts4 hM (by omega) (oM_ck hM (m_drafts2 (e := 8) hM (by omega) (oM_ck hM ?_)))
  rw [w1]
  refine m_drafts4 (e := 10) hM (by rw [← w1]; omega) ?_
  rw [w2]
  have : FU = 1000000 := rfl
  have h80 := hT.2.2.1
  have q := m_w90 (sv := sv) (pl := nI (szF (S.1 26) 0 fs)) hM hF hP hR hT hA hD.2 hkn hk16 rfl rfl hl hps ht hrs hfind hq FU 0 (by omega) (Nat.zero_le _)
  have e10 : (be4 (S.1 25) ++ be2 (nI kn) ++ be4 vs ++ tk).take (10 + 0) = be4 (S.1 25) ++ be2 (nI kn) ++ be4 vs := by
    rw [List.take_append_of_le_length (by simp only [List.length_append, be4_len, be2_len]; omega)]
    exact List.take_of_length_le (by simp only [List.length_append, be4_len, be2_len]; omega)
  rw [e10] at q
  exact q
theorem tOk_I {j : Nat} {v : Int32} {tk : List Int32} (h : tOk S tk) : tOk (upI S j v) tk := h
theorem drOk_I {j : Nat} {v : Int32} (h : drOk S) : drOk (upI S j v) := h
theorem m_writes {kn : Nat} {sv : List Nat} {vs : Int32} {tk : List Int32} {k : Unit → M α} {Q : α → MS → Prop} (hM : Mk m g) (hF : RepF S fs) (hS : SrtF fs) (hP : RepP S ps) (hR : RepR S rs) (hT : tOk S tk) (hD : drOk S) (hkn : kn ≤ tk.length) (hk16 : kn ≤ 16) (hl : fs.length < 4000) (hps : ps.length < 4100) (ht : totF fs + (14 + tk.length) ≤ 16384) (hrs : rs.length < 1199) (hfind : vs < 0 → plR (tk.take kn) rs < rs.length) (hsz : rsz (nI kn) vs = nI (14 + tk.length)) (hnew : szF (S.1 24) 0 fs = 0)
    (hq : ∀ S', RepF S' (appF (wAct S fs (14 + tk.length)) 0 (recB (S.1 25) (nI kn) vs tk) fs sv).1 → RepP S' (ps ++ [(wAct S fs (14 + tk.length), 0, nI (14 + tk.length))]) → RepR S' (wrR (tk.take kn) (wAct S fs (14 + tk.length)) (wPl S fs (14 + tk.length)) vs (S.1 25) rs) → S'.1 25 = S.1 25 + 1 → S'.1 26 = wAct S fs (14 + tk.length) → S'.1 24 = wNum S fs (14 + tk.length) → drOk S' → mfr [4, 8, 12, 14, 24, 25, 26, 33] [1, 2, 3, 4, 5, 6, 7, 8, 11, 12, 13, 14, 15, 16] S S' → okM m g (k ()) S' Q) : okM m g (bd (X9_writes m (nI kn) vs) k) S Q := by
  refine oM_bd ?_
  unfold X9_writes X9_bytesOf
  refine oM_bpu ?_
  have hsz' : (14 + nI kn) + imx vs 0 = nI (14 + tk.length) := hsz
  rw [hsz']
  have new : wNew S fs (14 + tk.length) = true → okM m g (X9_writes_b32 m (nI kn) vs (nI (14 + tk.length))) S (fun v S1 => okM m g (k v) S1 Q) := by
    intro hn
    have a1 : wAct S fs (14 + tk.length) = S.1 24 := by unfold wAct; rw [if_pos hn]
    have a2 : wPl S fs (14 + tk.length) = 0 := by unfold wPl; rw [if_pos hn]
    have a3 : wNum S fs (14 + tk.length) = S.1 24 + 1 := by unfold wNum; rw [if_pos hn]
    rw [a1, a2, a3] at hq
    unfold X9_writes_b32
    refine oM_gI hM (oM_pI hM (oM_gI hM (oM_pI hM ?_)))
    have f0 : mfr [24, 26] [] S (upI (upI S 26 (S.1 24)) 24 (S.1 24 + 1)) := mfr_tr (mfr_I (by decide)) (mfr_I (by decide))
    have e26 : (upI (upI S 26 (S.1 24)) 24 (S.1 24 + 1)).1 26 = S.1 24 := rfl
    have e25 : (upI (upI S 26 (S.1 24)) 24 (S.1 24 + 1)).1 25 = S.1 25 := rfl
    have q := m_w50 (S := upI (upI S 26 (S.1 24)) 24 (S.1 24 + 1)) (sv := sv) (kn := kn) (vs := vs) (Q := fun v S1 => okM m g (k v) S1 Q) hM (repF_fr hF f0 (by decide) (by decide) (by decide) (by decide) (by decide) (by decide)) hS (repP_fr hP f0 (by decide) (by decide) (by decide) (by decide)) (repR_fr hR f0 (by decide) (fun q _ _ => List.not_mem_nil)) hT hD hkn hk16 hl hps ht hrs hfind (by
      intro S' r1 r2 r3 r4 r5 r6
      rw [e26, e25] at r1 r3
      rw [e26] at r2
      rw [hnew] at r3
      rw [e25] at r4
      refine hq S' r1 r2 r3 r4 ?_ ?_ r5 ?_
      · rw [r6.1 26 (by decide)]
        rfl
      · rw [r6.1 24 (by decide)]
        rfl
      · exact mfr_tr (mfr_mono f0 (by decide) (by decide)) (mfr_mono r6 (by decide) (by decide)))
    exact q
  refine oM_gI hM ?_
  by_cases c1 : S.1 26 = -1
  · exact oM_itT c1 (new (decide_eq_true (Or.inl c1)))
  refine oM_itF c1 (oM_gI hM (oM_ck hM (m_sizeOf hM hF hS (oM_gI hM ?_))))
  by_cases c2 : S.1 2 < nI (szF (S.1 26) 0 fs) + nI (14 + tk.length)
  · exact oM_itF (Int32.not_le.mpr c2) (new (decide_eq_true (Or.inr c2)))
  have hn : ¬ wNew S fs (14 + tk.length) = true := by
    unfold wNew
    rw [decide_eq_false (fun q => q.elim c1 c2)]
    decide
  have a1 : wAct S fs (14 + tk.length) = S.1 26 := by unfold wAct; rw [if_neg hn]
  have a2 : wPl S fs (14 + tk.length) = nI (szF (S.1 26) 0 fs) := by unfold wPl; rw [if_neg hn]
  have a3 : wNum S fs (14 + tk.length) = S.1 24 := by unfold wNum; rw [if_neg hn]
  rw [a1, a2, a3] at hq
  refine oM_itT (Int32.not_lt.mp c2) (m_w50 (sv := sv) hM hF hS hP hR hT hD hkn hk16 hl hps ht hrs hfind (fun S' r1 r2 r3 r4 r5 r6 => hq S' r1 r2 r3 r4 (r6.1 26 (by decide)) (r6.1 24 (by decide)) r5 (mfr_mono r6 (by decide) (by decide))))
end
