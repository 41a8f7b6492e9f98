/-! the reference: put, remove -/
section
variable {m : Nat} {g : Gh} {S : MS} {α : Type} {rs : List AR} {fs : List AF} {ps : List AV}
/-- what holds after a record was written -/
def Wrote (S S' : MS) (fs : List AF) (ps : List AV) (rs : List AR) (sv : List Nat) (kn : Nat) (vs : Int32) (tk : List Int32) : Prop := RepF S' (appF (wAct S fs (14 + tk.length)) 0 (recB (S.1 25) (nI kn) vs tk) fs sv).1 ∧ RepP S' (ps ++ [(wAct S fs (14 + tk.length), 0, nI (14 + tk.length))]) ∧ RepR S' (wrR (tk.take kn) (wAct S fs (14 + tk.length)) (wPl S fs (14 + tk.length)) vs (S.1 25) rs) ∧ S'.1 25 = S.1 25 + 1 ∧ S'.1 26 = wAct S fs (14 + tk.length) ∧ S'.1 24 = wNum S fs (14 + tk.length) ∧ drOk S' ∧ RepT S' [] ∧ S'.1 0 = 0 ∧ mfr [0, 4, 8, 12, 14, 16, 24, 25, 26, 33] [1, 2, 3, 4, 5, 6, 7, 8, 11, 12, 13, 14, 15, 16] S S'
/-- what holds after a throw -/
def Threw (S S' : MS) (c : Int32) : Prop := RepT S' [] ∧ S'.1 0 = c ∧ mfr [0, 16] [] S S'
theorem add_sub1 (x : Int32) : x + 1 - 1 = x := by grind
theorem repT_nil {tp : List Int32} (hT : RepT S tp) {c : Int32} : RepT (upI (upI S 16 0) 0 c) [] := ⟨rfl, Nat.zero_le _, hT.2.2.1, rfl, hT.2.2.2.2⟩
theorem threw1 {tp : List Int32} (hT : RepT S tp) {c : Int32} : Threw S (upI (upI S 16 0) 0 c) c := ⟨repT_nil hT, rfl, mfr_tr (mfr_I (by decide)) (mfr_I (by decide))⟩
theorem threw2 {tp : List Int32} (hT : RepT S tp) {c d : Int32} : Threw S (upI (upI (upI S 16 0) 0 c) 0 d) d := ⟨⟨rfl, Nat.zero_le _, hT.2.2.1, rfl, hT.2.2.2.2⟩, rfl, mfr_tr (mfr_tr (mfr_I (by decide)) (mfr_I (by decide))) (mfr_I (by decide))⟩
theorem m_wrote {kn : Nat} {sv : List Nat} {vs : Int32} {tp : List Int32} {k : Unit → M α} {Q : α → MS → Prop} (S1 : MS) (hM : Mk m g) (hF : RepF S fs) (hS : SrtF fs) (hP : RepP S ps) (hR : RepR S rs) (hT : RepT S tp) (hD : drOk S) (hkn : kn ≤ tp.length) (hk16 : kn ≤ 16) (hl : fs.length < 4000) (hps : ps.length < 4100) (ht : totF fs + (14 + tp.length) ≤ 16384) (hrs : rs.length < 1199) (hfind : vs < 0 → plR (tp.take kn) rs < rs.length) (hsz : rsz (nI kn) vs = nI (14 + tp.length)) (hnew : szF (S.1 24) 0 fs = 0) (f1 : mfr [0, 16] [] S S1) (T1 : RepT S1 []) (z1 : S1.1 0 = 0) (h : ∀ S', Wrote S S' fs ps rs sv kn vs tp → okM m g (k ()) S' Q) : okM m g (bd (X9_writes m (nI kn) vs) k) S1 Q := by
  have F1 : RepF S1 fs := repF_fr hF f1 (by decide) (by decide) (by decide) (by decide) (by decide) (by decide)
  have P1 : RepP S1 ps := repP_fr hP f1 (by decide) (by decide) (by decide) (by decide)
  have R1 : RepR S1 rs := repR_fr hR f1 (by decide) (fun q _ _ => List.not_mem_nil)
  have e9 : S1.2 9 = S.2 9 := f1.2 9 List.not_mem_nil
  have e8 : S1.2 8 = S.2 8 := f1.2 8 List.not_mem_nil
  have t1 : tOk S1 tp := by
    unfold tOk
    rw [e9]
    exact ⟨hT.2.2.1, hT.2.2.2.1, hT.2.1, hT.2.2.2.2⟩
  have d1 : drOk S1 := by
    unfold drOk
    rw [e8]
    exact hD
  have e24 : S1.1 24 = S.1 24 := f1.1 24 (by decide)
  have e25 : S1.1 25 = S.1 25 := f1.1 25 (by decide)
  have e26 : S1.1 26 = S.1 26 := f1.1 26 (by decide)
  have e2 : S1.1 2 = S.1 2 := f1.1 2 (by decide)
  have n1 : wNew S1 fs (14 + tp.length) = wNew S fs (14 + tp.length) := by
    unfold wNew
    rw [e26, e2]
  have n2 : wAct S1 fs (14 + tp.length) = wAct S fs (14 + tp.length) := by
    unfold wAct
    rw [n1, e24, e26]
  have n3 : wPl S1 fs (14 + tp.length) = wPl S fs (14 + tp.length) := by
    unfold wPl
    rw [n1, e26]
  have n4 : wNum S1 fs (14 + tp.length) = wNum S fs (14 + tp.length) := by
    unfold wNum
    rw [n1, e24]
  refine m_writes (sv := sv) hM F1 hS P1 R1 t1 d1 hkn hk16 hl hps ht hrs hfind hsz (by rw [e24]; exact hnew) (fun S' r1 r2 r3 r4 r5 r6 r7 r8 => h S' ?_)
  rw [n2, e25] at r1
  rw [n2] at r2 r5
  rw [n2, n3, e25] at r3
  rw [e25] at r4
  rw [n4] at r6
  exact ⟨r1, r2, r3, r4, r5, r6, r7, repT_fr T1 r8 (by decide) (by decide), (r8.1 0 (by decide)).trans z1, mfr_tr (mfr_mono f1 (by decide) (by decide)) (mfr_mono r8 (by decide) (by decide))⟩
def putBad (x : Int32) (tp : List Int32) : Prop := x < 1 ∨ 16 < x ∨ nI tp.length - x < 0 ∨ 64 < nI tp.length - x
theorem m_put {x : Int32} {sv : List Nat} {tp : List Int32} {k : Int32 → M α} {Q : α → MS → Prop} (hM : Mk m g) (hF : RepF S fs) (hS : SrtF fs) (hP : RepP S ps) (hR : RepR S rs) (hT : RepT S tp) (hD : drOk S) (hl : fs.length < 4000) (hps : ps.length < 4100) (ht : ¬ S.1 23 = 0 → fullM S (nI (14 + tp.length)) = false → totF fs + (14 + tp.length) ≤ 16384 ∧ rs.length < 1199 ∧ szF (S.1 24) 0 fs = 0)
    (h1 : ∀ S', S.1 23 = 0 → Threw S S' 1 → okM m g (k 0) S' Q) (h2 : ∀ S', ¬ S.1 23 = 0 → putBad x tp → Threw S S' 2 → okM m g (k 0) S' Q) (h3 : ∀ S', ¬ S.1 23 = 0 → ¬ putBad x tp → fullM S (rsz x (nI tp.length - x)) = true → Threw S S' 3 → okM m g (k 0) S' Q) (h4 : ∀ S', ¬ S.1 23 = 0 → ¬ putBad x tp → fullM S (rsz x (nI tp.length - x)) = false → Wrote S S' fs ps rs sv x.toNatClampNeg (nI tp.length - x) tp → okM m g (k (S.1 25)) S' Q) : okM m g (bd (X9_put m x) k) S Q := by
  refine oM_bd ?_
  unfold X9_put X9_put_b46
  have h80 := hT.2.1
  refine oM_gI hM (oM_pI hM (oM_gI hM ?_))
  rw [hT.1]
  have e23 : (upI S 16 0).1 23 = S.1 23 := rfl
  rw [e23]
  by_cases c : S.1 23 = 0
  · refine oM_itF (fun q => q c) ?_
    unfold X9_put_b51 X9_put_b80
    exact (oM_pI hM (oM_gI hM (oM_itT (show ¬ (1 : Int32) = 0 by decide) (oM_gI hM (oM_itF (show ¬ (1 : Int32) ≤ 0 by decide) (oM_pu (h1 _ c (threw1 hT))))))))
  refine oM_itT c ?_
  have bad : putBad x tp → okM m g (X9_put_b51 m x (nI tp.length) 2 m) (upI S 16 0) (fun v S1 => okM m g (k v) S1 Q) := by
    intro q
    unfold X9_put_b51 X9_put_b80
    exact oM_pI hM (oM_gI hM (oM_itT (show ¬ (2 : Int32) = 0 by decide) (oM_gI hM (oM_itF (show ¬ (2 : Int32) ≤ 0 by decide) (oM_pu (h2 _ c q (threw1 hT)))))))
  by_cases d1 : x < 1
  · exact oM_itT d1 (bad (Or.inl d1))
  refine oM_itF d1 ?_
  by_cases d2 : 16 < x
  · exact oM_itT d2 (bad (Or.inr (Or.inl d2)))
  refine oM_itF d2 ?_
  have hx0 : ¬ x < 0 := by
    rw [Int32.lt_iff_toInt_lt] at d1 ⊢
    rw [show (1 : Int32).toInt = 1 from rfl] at d1
    rw [Int32.toInt_zero]
    omega
  obtain ⟨n, en⟩ : ∃ n, x.toNatClampNeg = n := ⟨_, rfl⟩
  have ex : x = nI n := by rw [← en]; exact nI_cl hx0
  have hn31 : n < 2 ^ 31 := by rw [← en]; exact clamp_lt x
  have hn : n ≤ 16 := by
    rw [ex, Int32.lt_iff_toInt_lt, nI_toInt hn31, show (16 : Int32).toInt = 16 from rfl] at d2
    omega
  have sub : (nI tp.length - x).toInt = (tp.length : Int) - n := by rw [ex]; exact nI_subI (by omega) hn31
  by_cases d3 : nI tp.length < x
  · refine oM_itT d3 (bad (Or.inr (Or.inr (Or.inl ?_))))
    rw [ex, Int32.lt_iff_toInt_lt, nI_toInt (by omega), nI_toInt hn31] at d3
    rw [Int32.lt_iff_toInt_lt, sub, Int32.toInt_zero]
    omega
  refine oM_itF d3 ?_
  have hnl : n ≤ tp.length := by
    rw [ex, Int32.lt_iff_toInt_lt, nI_toInt (by omega), nI_toInt hn31] at d3
    omega
  by_cases d4 : 64 < nI tp.length - x
  · exact oM_itF (Int32.not_le.mpr d4) (bad (Or.inr (Or.inr (Or.inr d4))))
  have v0 : ¬ nI tp.length - x < 0 := by
    rw [Int32.lt_iff_toInt_lt, sub, Int32.toInt_zero]
    omega
  have nb : ¬ putBad x tp := fun q => q.elim d1 (fun q => q.elim d2 (fun q => q.elim v0 d4))
  have hsz : rsz (nI n) (nI tp.length - x) = nI (14 + tp.length) := by
    have e1 : nI tp.length - x = nI (tp.length - n) := by rw [ex]; exact nI_subN hnl
    rw [e1, rsz_nI]
    have : (nI (tp.length - n)).toNatClampNeg = tp.length - n := by
      show (nI (tp.length - n)).toInt.toNat = _
      rw [nI_toInt (by omega)]
      rfl
    rw [this]
    congr 1
    omega
  have hszx : rsz x (nI tp.length - x) = nI (14 + tp.length) := by rw [← hsz, ← ex]
  refine oM_itT (Int32.not_lt.mp d4) ?_
  unfold X9_put_b51 X9_put_b80
  refine (oM_pI hM (oM_gI hM (oM_itF (fun q => q rfl) ?_)))
  unfold X9_bytesOf
  refine oM_bpu (oM_ck hM ?_)
  have hsz' : (14 + x) + imx (nI tp.length - x) 0 = nI (14 + tp.length) := hszx
  rw [hsz']
  have ef : fullM (upI (upI S 16 0) 0 0) (nI (14 + tp.length)) = fullM S (nI (14 + tp.length)) := rfl
  refine m_isFull hM ?_
  rw [ef]
  rw [hszx] at h3 h4
  cases hb : fullM S (nI (14 + tp.length)) with
  | true => exact oM_itF (by decide) (oM_pI hM (oM_gI hM (oM_itF (show ¬ (3 : Int32) ≤ 0 by decide) (oM_pu (h3 _ c nb hb (threw2 hT))))))
  | false =>
    obtain ⟨t1, t2, t3⟩ := ht c hb
    refine oM_itT rfl (oM_gI hM (oM_itT (show (0 : Int32) ≤ 0 by decide) (oM_ck hM ?_)))
    rw [en] at h4
    have q := m_wrote (sv := sv) (kn := n) (vs := nI tp.length - x) (k := fun _ => bd (gI 12 25 m) (fun x2 => pu (x2 - 1))) (Q := fun v S1 => okM m g (k v) S1 Q) (upI (upI S 16 0) 0 0) hM hF hS hP hR hT hD hnl hn hl hps t1 t2 (fun q => absurd q v0) hsz t3 (mfr_tr (mfr_I (by decide)) (mfr_I (by decide))) (repT_nil hT) rfl (fun S' hw => oM_gI hM (oM_pu (by
      rw [hw.2.2.2.1, add_sub1]
      exact h4 S' c nb hb hw)))
    rw [← ex] at q
    exact q
end
