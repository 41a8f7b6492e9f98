/-! the sum, bit by bit and by halves of bytes -/
def bsI (c : Int32) : Int32 := if (c &&& 1) = 1 then ush c 1 ^^^ (-306674912) else ush c 1
def bsN : Nat → Int32 → Int32
  | 0, c => c
  | m + 1, c => bsN m (bsI c)
def NB (c : Int32) : Nat := c.toBitVec.toNat
theorem NB_inj {a b : Int32} (h : NB a = NB b) : a = b := Int32.toBitVec_inj.mp (BitVec.eq_of_toNat_eq h)
theorem NB_xor (a b : Int32) : NB (a ^^^ b) = NB a ^^^ NB b := by
  unfold NB
  rw [Int32.toBitVec_xor, BitVec.toNat_xor]
theorem NB_ush1 (a : Int32) : NB (ush a 1) = NB a / 2 := by
  have := pk_ushr a 1 1 (by decide)
  unfold NB ush
  rw [this]
theorem NB_ush4 (a : Int32) : NB (ush a 4) = NB a / 16 := by
  have := pk_ushr a 4 4 (by decide)
  unfold NB ush
  rw [this]
theorem NB_and1 (a : Int32) : NB (a &&& 1) = NB a % 2 := by
  unfold NB
  rw [Int32.toBitVec_and, BitVec.toNat_and, show (1 : Int32).toBitVec.toNat = 1 from rfl, Nat.and_one_is_mod]
def muN (X : Nat) : Nat := if X % 2 = 1 then 3988292384 else 0
theorem bs_N (c : Int32) : NB (bsI c) = NB c / 2 ^^^ muN (NB c) := by
  unfold bsI muN
  by_cases h : (c &&& 1) = 1
  · have e : NB c % 2 = 1 := by rw [← NB_and1, h]; rfl
    rw [if_pos h, if_pos e, NB_xor, NB_ush1]
    rfl
  · have e : ¬ NB c % 2 = 1 := by
      intro q
      apply h
      apply NB_inj
      rw [NB_and1, q]
      rfl
    rw [if_neg h, if_neg e, NB_ush1, Nat.xor_zero]
theorem muN_even (X : Nat) : muN X % 2 = 0 ∧ muN X / 2 % 2 = 0 ∧ muN X / 4 % 2 = 0 ∧ muN X / 8 % 2 = 0 := by
  unfold muN
  split <;> decide
theorem xor_par (a b : Nat) (h : b % 2 = 0) : (a ^^^ b) % 2 = a % 2 := by
  have := Nat.xor_mod_two_pow (a := a) (b := b) (n := 1)
  rw [Nat.pow_one, h, Nat.xor_zero] at this
  exact this
theorem xor_half (a b : Nat) : (a ^^^ b) / 2 = a / 2 ^^^ b / 2 := by
  have := Nat.shiftRight_xor_distrib (a := a) (b := b) (i := 1)
  simpa [Nat.shiftRight_eq_div_pow] using this
theorem muN_par {X Y : Nat} (h : X % 2 = Y % 2) : muN X = muN Y := by
  unfold muN
  rw [h]
theorem nib_N : ∀ j, j < 16 → muN j / 8 ^^^ (muN (j / 2) / 4 ^^^ (muN (j / 4) / 2 ^^^ muN (j / 8))) = NB (sumT j) := by decide
theorem NB_and15 (c : Int32) : (c &&& 15).toNatClampNeg = NB c % 16 := by
  obtain ⟨j, hj, ej⟩ := pk_andE c (m := 15) 4 rfl
  rw [ej, nI_clamp (by omega)]
  have h : NB (c &&& 15) = NB c % 16 := by
    unfold NB
    rw [Int32.toBitVec_and, BitVec.toNat_and, show (15 : Int32).toBitVec.toNat = 2 ^ 4 - 1 from rfl, Nat.and_two_pow_sub_one_eq_mod]
  rw [ej] at h
  have h2 : NB (nI j) = j := by
    unfold NB
    have : (nI j).toInt = (j : Int) := nI_toInt (by omega)
    have h3 : (nI j).toBitVec.toInt = (j : Int) := this
    rw [BitVec.toInt_eq_toNat_cond] at h3
    have h4 : (nI j).toBitVec.toNat < 2 ^ 32 := BitVec.isLt _
    split at h3 <;> omega
  omega
/-- four bits at once -/
theorem bs4 (c : Int32) : bsI (bsI (bsI (bsI c))) = ush c 4 ^^^ t16 c := by
  apply NB_inj
  rw [NB_xor, NB_ush4]
  have e1 := bs_N c
  have e2 := bs_N (bsI c)
  have e3 := bs_N (bsI (bsI c))
  have e4 := bs_N (bsI (bsI (bsI c)))
  generalize NB (bsI c) = X1 at *
  generalize NB (bsI (bsI c)) = X2 at *
  generalize NB (bsI (bsI (bsI c))) = X3 at *
  rw [e4]
  have hT : NB (t16 c) = NB (sumT (NB c % 16)) := by
    unfold t16
    rw [NB_and15]
  rw [hT, ← nib_N _ (Nat.mod_lt _ (by decide))]
  generalize NB c = X at *
  obtain ⟨m1, m2, m3, m4⟩ := muN_even X
  have p1 : X1 % 2 = (X / 2) % 2 := by rw [e1]; exact xor_par _ _ m1
  have q1 : muN X1 = muN (X / 2) := muN_par p1
  obtain ⟨m5, m6, m7, m8⟩ := muN_even (X / 2)
  have f2 : X2 = X / 2 / 2 ^^^ muN X / 2 ^^^ muN (X / 2) := by rw [e2, q1, e1, xor_half]
  have p2 : X2 % 2 = (X / 2 / 2) % 2 := by rw [f2, xor_par _ _ m5, xor_par _ _ m2]
  have q2 : muN X2 = muN (X / 2 / 2) := muN_par p2
  obtain ⟨m9, m10, m11, m12⟩ := muN_even (X / 2 / 2)
  have f3 : X3 = X / 2 / 2 / 2 ^^^ muN X / 2 / 2 ^^^ muN (X / 2) / 2 ^^^ muN (X / 2 / 2) := by rw [e3, q2, f2, xor_half, xor_half]
  have p3 : X3 % 2 = (X / 2 / 2 / 2) % 2 := by
    rw [f3, xor_par _ _ m9, xor_par _ _ m6, xor_par]
    rw [Nat.div_div_eq_div_mul]
    exact m3
  have q3 : muN X3 = muN (X / 2 / 2 / 2) := muN_par p3
  rw [q3, f3, xor_half, xor_half, xor_half]
  have a1 : muN (X % 16) = muN X := muN_par (by omega)
  have a2 : muN (X % 16 / 2) = muN (X / 2) := muN_par (by omega)
  have a3 : muN (X % 16 / 4) = muN (X / 2 / 2) := muN_par (by omega)
  have a4 : muN (X % 16 / 8) = muN (X / 2 / 2 / 2) := muN_par (by omega)
  rw [a1, a2, a3, a4]
  have b1 : X / 2 / 2 / 2 / 2 = X / 16 := by omega
  have b2 : muN X / 2 / 2 / 2 = muN X / 8 := by omega
  have b3 : muN (X / 2) / 2 / 2 = muN (X / 2) / 4 := by omega
  rw [b1, b2, b3]
  simp only [Nat.xor_assoc]
theorem bs8 (c x : Int32) : bsN 8 (c ^^^ (x &&& 255)) = cst c x := by
  show bsI (bsI (bsI (bsI (bsI (bsI (bsI (bsI (c ^^^ (x &&& 255))))))))) = _
  rw [bs4, bs4]
  rfl
section
variable {m : Nat} {g : Gh} {S : MS} {α : Type}
theorem m_sum_bits {Q : Int32 → MS → Prop} {a0 : Nat} {i2 i4 : Int32} {k5 : Nat → Int32 → Int32 → Int32 → M Int32} : ∀ (w i : Nat) (c : Int32), 8 - i < w → i ≤ 8 → okM m g (k5 a0 i2 (bsN (8 - i) c) (i4 + 1)) S Q → okM m g (X9_sum_b25 k5 w a0 i2 c i4 (nI i)) S Q := by
  intro w
  induction w with
  | zero => intro i c h; omega
  | succ w ih =>
    intro i c hw hi hq
    show okM m g (X9_sum_b25b k5 (X9_sum_b25 k5 w) a0 i2 c i4 (nI i)) S Q
    unfold X9_sum_b25b X9_sum_b51
    by_cases h8 : i = 8
    · subst h8
      exact oM_itT (Int32.le_refl _) hq
    · have hlt : i < 8 := by omega
      refine oM_itF (nI_ge (b := 8) hlt (by omega)) ?_
      rw [nI_1]
      rw [show 8 - i = (8 - (i + 1)) + 1 by omega] at hq
      have hq : okM m g (k5 a0 i2 (bsN (8 - (i + 1)) (bsI c)) (i4 + 1)) S Q := hq
      unfold bsI at hq
      by_cases hc : (c &&& 1) = 1
      · rw [if_pos hc] at hq
        exact oM_itF (fun q => q hc) (ih (i + 1) _ (by omega) (by omega) hq)
      · rw [if_neg hc] at hq
        exact oM_itT hc (ih (i + 1) _ (by omega) (by omega) hq)
theorem m_sum_loop {Q : Int32 → MS → Prop} {q t : Nat} (hM : Mk m g) (h1 : 1 ≤ q) (h2 : q ≤ 26) (hk : knd q = 21) (ht : t ≤ (S.2 q).length) (h6 : (S.2 q).length < 2 ^ 31) : ∀ (w i : Nat) (c : Int32), t - i < w → i ≤ t → Q (((((S.2 q).drop i).take (t - i)).foldl cst c) ^^^ (-1)) S → okM m g (X9_sum_b5 w (m + q) (nI t) c (nI i)) S Q := by
  intro w
  induction w with
  | zero => intro i c h; omega
  | succ w ih =>
    intro i c hw hi hq
    show okM m g (X9_sum_b5b (X9_sum_b5 w) (m + q) (nI t) c (nI i)) S Q
    unfold X9_sum_b5b
    by_cases e : i < t
    · obtain ⟨v, hv⟩ := some_of_lt (show i < (S.2 q).length by omega)
      have hgd : (S.2 q).getD i 0 = v := by
        rw [List.getD_eq_getElem?_getD, hv]
        rfl
      have : FU = 1000000 := rfl
      refine oM_itF (nI_ge e (by omega)) (oM_al hM rfl hv (oM_bpu (m_sum_bits FU 0 _ (by omega) (by omega) ?_)) h1 h2 hk)
      rw [nI_1, Nat.sub_zero, bs8]
      refine ih (i + 1) _ (by omega) (by omega) ?_
      rw [dt_cons e ht, hgd] at hq
      exact hq
    · have e2 : i = t := by omega
      subst e2
      rw [Nat.sub_self] at hq
      exact oM_itT (nI_le (Nat.le_refl _) (by omega)) (oM_pu hq)
theorem m_sum {Q : α → MS → Prop} {q f t : Nat} {x y : Int32} {k : Int32 → M α} (hM : Mk m g) (hx : x = nI f) (hy : y = nI t) (hft : f ≤ t) (ht : t ≤ (S.2 q).length) (h6 : (S.2 q).length ≤ 60000) (h : okM m g (k (crcL (((S.2 q).drop f).take (t - f)))) S Q) (h1 : 1 ≤ q := by decide) (h2 : q ≤ 26 := by decide) (hk : knd q = 21 := by rfl) : okM m g (bd (X9_sum (m + q) x y) k) S Q := by
  subst hx hy
  refine oM_bd (oM_bpu ?_)
  have : FU = 1000000 := rfl
  exact m_sum_loop hM h1 h2 hk ht (by omega) FU f (-1) (by omega) hft h
end
