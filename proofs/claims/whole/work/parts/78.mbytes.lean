/-! the reference: numbers in bytes, their order -/
theorem or_shl (a b : Int32) (s : Int32) : (a ||| b) <<< s = a <<< s ||| b <<< s := by
  apply Int32.toBitVec_inj.mp
  rw [Int32.toBitVec_shiftLeft, Int32.toBitVec_or, Int32.toBitVec_or, Int32.toBitVec_shiftLeft, Int32.toBitVec_shiftLeft]
  exact BitVec.shiftLeft_or_distrib _ _ _
theorem shl_8_16 (a : Int32) : (a <<< (8 : Int32)) <<< (16 : Int32) = a <<< (24 : Int32) := by
  apply Int32.toBitVec_inj.mp
  rw [Int32.toBitVec_shiftLeft, Int32.toBitVec_shiftLeft, Int32.toBitVec_shiftLeft]
  have e1 : (8 : Int32).toBitVec.smod 32 = 8#32 := by decide
  have e2 : (16 : Int32).toBitVec.smod 32 = 16#32 := by decide
  have e3 : (24 : Int32).toBitVec.smod 32 = 24#32 := by decide
  rw [e1, e2, e3]
  show (a.toBitVec <<< (8#32).toNat) <<< (16#32).toNat = a.toBitVec <<< (24#32).toNat
  rw [← BitVec.shiftLeft_add]
  rfl
def n4 (a b c d : Int32) : Int32 := ((((a &&& 255) <<< ((24 : Int32) &&& 31)) ||| ((b &&& 255) <<< ((16 : Int32) &&& 31))) ||| ((c &&& 255) <<< ((8 : Int32) &&& 31))) ||| (d &&& 255)
theorem n4_bnm {l : List Int32} {j : Nat} (h : j + 3 < l.length) (hl : l.length < 2 ^ 31) : bnm l (nI j) = n4 (l.getD j 0) (l.getD (j + 1) 0) (l.getD (j + 2) 0) (l.getD (j + 3) 0) := by
  unfold bnm bsh n4
  have e1 : nI j + 1 = nI (j + 1) := nI_1 j
  have e2 : nI j + 2 = nI (j + 2) := nI_add j 2
  have e3 : nI (j + 2) + 1 = nI (j + 3) := nI_1 (j + 2)
  rw [e1, e2, e3, bat_lt (by omega) hl, bat_lt (by omega) hl, bat_lt (by omega) hl, bat_lt (by omega) hl, and255, and255, and255, and255]
  rw [show (8 : Int32) &&& 31 = 8 from rfl, show (16 : Int32) &&& 31 = 16 from rfl, show (24 : Int32) &&& 31 = 24 from rfl]
  rw [or_shl, shl_8_16]
  simp only [Int32.or_assoc]
section
variable {m : Nat} {g : Gh} {S : MS} {α : Type} {fs : List AF} {ps : List AV}
theorem m_number4 {Q : α → MS → Prop} {q i : Nat} {x : Int32} {k : Int32 → M α} {a b c d : Int32} (hM : Mk m g) (hx : x = nI i) (ha : (S.2 q)[i]? = some a) (hb : (S.2 q)[i + 1]? = some b) (hc : (S.2 q)[i + 2]? = some c) (hd : (S.2 q)[i + 3]? = some d) (h : okM m g (k (n4 a b c d)) S Q) (h1 : 1 ≤ q := by decide) (h2 : q ≤ 26 := by decide) (hk : knd q = 21 := by rfl) : okM m g (bd (X9_number4 (m + q) x) k) S Q := by
  subst hx
  refine oM_bd ?_
  unfold X9_number4
  exact oM_al hM rfl ha (oM_al hM (nI_add i 1) hb (oM_al hM (nI_add i 2) hc (oM_al hM (nI_add i 3) hd (oM_pu h) h1 h2 hk) h1 h2 hk) h1 h2 hk) h1 h2 hk
/-- a number in a file, on the reference's disk -/
theorem m_num4f {Q : α → MS → Prop} {f j : Nat} {x : AF} {y : Int32} {k : Int32 → M α} (hM : Mk m g) (hR : RepF S fs) (hf : fs[f]? = some x) (hj : j + 3 < x.2.2.1.length) (hy : y = nI (totF (fs.take f) + j)) (h : okM m g (k (bnm x.2.2.1 (nI j))) S Q) : okM m g (bd (X9_number4 (m + 1) y) k) S Q := by
  have eT := totF_take hf
  have h3 := hR.1.2.2.1
  rw [n4_bnm hj (by omega)] at h
  have gd : ∀ i, i < x.2.2.1.length → (S.2 1)[totF (fs.take f) + i]? = some (x.2.2.1.getD i 0) := by
    intro i hi
    refine dsk_get hR hf ?_
    rw [List.getD_eq_getElem?_getD, List.getElem?_eq_getElem hi]
    rfl
  exact m_number4 (q := 1) hM hy (gd j (by omega)) (gd (j + 1) (by omega)) (gd (j + 2) (by omega)) (gd (j + 3) (by omega)) h
theorem dt_get {l : List Int32} {f n i : Nat} (h : i < n) : ((l.drop f).take n)[i]? = l[f + i]? := by
  rw [List.getElem?_take, if_pos h, List.getElem?_drop]
theorem m_order_loop {Q : Int32 → MS → Prop} {q q' f f' n n' : Nat} (hM : Mk m g) (h1 : 1 ≤ q) (h2 : q ≤ 26) (hk : knd q = 21) (h1' : 1 ≤ q') (h2' : q' ≤ 26) (hk' : knd q' = 21) (hl : f + n ≤ (S.2 q).length) (hl' : f' + n' ≤ (S.2 q').length) (h6 : (S.2 q).length ≤ 60000) (h6' : (S.2 q').length ≤ 60000) : ∀ (w i : Nat), n - i < w → i ≤ n → i ≤ n' → Q (cmpL ((((S.2 q).drop f).take n).drop i) ((((S.2 q').drop f').take n').drop i)) S → okM m g (X9_order_b3 w (m + q) (nI f) (nI n) (m + q') (nI f') (nI n') (nI i)) S Q := by
  have ln : (((S.2 q).drop f).take n).length = n := by rw [List.length_take, List.length_drop]; omega
  have ln' : (((S.2 q').drop f').take n').length = n' := by rw [List.length_take, List.length_drop]; omega
  intro w
  induction w with
  | zero => intro i h; omega
  | succ w ih =>
    intro i hw hi hi' hq
    show okM m g (X9_order_b3b (X9_order_b3 w) (m + q) (nI f) (nI n) (m + q') (nI f') (nI n') (nI i)) S Q
    unfold X9_order_b3b X9_order_b54
    have endq : i = n ∨ i = n' → Q (nI n - nI n') S := by
      intro hh
      rw [cmp_nil] at hq
      · rw [List.length_drop, List.length_drop, ln, ln'] at hq
        have := nI_subc (n - i) (n' - i) i
        rw [show n - i + i = n by omega, show n' - i + i = n' by omega] at this
        rw [this]
        exact hq
      · rcases hh with q | q
        · exact Or.inl (List.drop_eq_nil_of_le (by omega))
        · exact Or.inr (List.drop_eq_nil_of_le (by omega))
    by_cases c1 : i = n
    · exact oM_itT (nI_le (by omega) (by omega)) (oM_pu (endq (Or.inl c1)))
    refine oM_itF (nI_ge (by omega) (by omega)) ?_
    by_cases c2 : i = n'
    · exact oM_itT (nI_le (by omega) (by omega)) (oM_pu (endq (Or.inr c2)))
    refine oM_itF (nI_ge (by omega) (by omega)) ?_
    obtain ⟨v, hv⟩ := some_of_lt (show f + i < (S.2 q).length by omega)
    obtain ⟨v', hv'⟩ := some_of_lt (show f' + i < (S.2 q').length by omega)
    have g1 : (((S.2 q).drop f).take n)[i]? = some v := by rw [dt_get (by omega)]; exact hv
    have g2 : (((S.2 q').drop f').take n')[i]? = some v' := by rw [dt_get (by omega)]; exact hv'
    rw [drop_cons g1, drop_cons g2] at hq
    have hq : Q (if (v &&& 255) - (v' &&& 255) = 0 then cmpL ((((S.2 q).drop f).take n).drop (i + 1)) ((((S.2 q').drop f').take n').drop (i + 1)) else (v &&& 255) - (v' &&& 255)) S := hq
    refine oM_al hM (nI_add f i) hv (oM_al hM (nI_add f' i) hv' (oM_bpu ?_) h1' h2' hk') h1 h2 hk
    by_cases c3 : (v &&& 255) - (v' &&& 255) = 0
    · rw [if_pos c3] at hq
      refine oM_itT c3 ?_
      rw [nI_1]
      exact ih (i + 1) (by omega) (by omega) (by omega) hq
    · rw [if_neg c3] at hq
      exact oM_itF c3 (oM_pu hq)
theorem m_order {Q : α → MS → Prop} {q q' f f' n n' : Nat} {x y x' y' : Int32} {k : Int32 → M α} (hM : Mk m g) (hx : x = nI f) (hy : y = nI n) (hx' : x' = nI f') (hy' : y' = nI n') (hl : f + n ≤ (S.2 q).length) (hl' : f' + n' ≤ (S.2 q').length) (h6 : (S.2 q).length ≤ 60000) (h6' : (S.2 q').length ≤ 60000) (h : okM m g (k (cmpL (((S.2 q).drop f).take n) (((S.2 q').drop f').take n'))) S Q) (h1 : 1 ≤ q := by decide) (h2 : q ≤ 26 := by decide) (hk : knd q = 21 := by rfl) (h1' : 1 ≤ q' := by decide) (h2' : q' ≤ 26 := by decide) (hk' : knd q' = 21 := by rfl) : okM m g (bd (X9_order (m + q) x y (m + q') x' y') k) S Q := by
  subst hx hy hx' hy'
  refine oM_bd ?_
  have : FU = 1000000 := rfl
  exact m_order_loop hM h1 h2 hk h1' h2' hk' hl hl' h6 h6' FU 0 (by omega) (Nat.zero_le _) (Nat.zero_le _) (by rw [List.drop_zero, List.drop_zero]; exact h)
def psum (c : Int32) (ps : List AV) : Int32 := ps.foldl (fun c p => c + p.2.2) c
theorem rp_n {i : Nat} {p : AV} (hP : RepP S ps) (h : ps[i]? = some p) : (S.2 5)[i]? = some p.1 ∧ (S.2 6)[i]? = some p.2.1 ∧ (S.2 7)[i]? = some p.2.2 := by
  refine ⟨pre_get hP.2.2.1 ?_, pre_get hP.2.2.2.1 ?_, pre_get hP.2.2.2.2 ?_⟩ <;> rw [List.getElem?_map, h] <;> rfl
theorem m_unsynced {Q : α → MS → Prop} {k : Int32 → M α} (hM : Mk m g) (hP : RepP S ps) (h : okM m g (k (psum 0 ps)) S Q) : okM m g (bd (X9_unsynced m) k) S Q := by
  refine oM_bd ?_
  have loop : ∀ (w i : Nat) (c : Int32), ps.length - i < w → i ≤ ps.length → okM m g (k (psum c (ps.drop i))) S Q → okM m g (X9_unsynced_b4 w m c (nI i)) S (fun v S1 => okM m g (k v) S1 Q) := by
    intro w
    induction w with
    | zero => intro i c h; omega
    | succ w ih =>
      intro i c hw hi hq
      show okM m g (X9_unsynced_b4b (X9_unsynced_b4 w) m c (nI i)) S _
      unfold X9_unsynced_b4b
      have := hP.1.2
      refine oM_gI hM ?_
      rw [hP.1.1]
      by_cases e : i < ps.length
      · obtain ⟨p, hp⟩ := some_of_lt e
        obtain ⟨n1, n2, n3⟩ := rp_n hP hp
        rw [drop_cons hp] at hq
        refine oM_itF (nI_ge e (by omega)) (oM_gR hM (oM_al (q := 7) hM rfl n3 (oM_bpu ?_)))
        rw [nI_1]
        exact ih (i + 1) _ (by omega) (by omega) hq
      · rw [List.drop_eq_nil_of_le (by omega)] at hq
        exact oM_itT (nI_le (by omega) (by omega)) (oM_pu hq)
  have : FU = 1000000 := rfl
  have h41 := hP.1.2
  exact loop FU 0 0 (by omega) (Nat.zero_le _) (by rw [List.drop_zero]; exact h)
end
