/-! the reference: the rows of its directory -/
theorem nI_16 (i : Nat) : 16 * nI i = nI (16 * i) := (Int32.ofNat_mul 16 i).symm
def rowIs (S : MS) (i : Nat) (r : AR) : Prop := r.1.length ≤ 16 ∧ (∀ t x, r.1[t]? = some x → (S.2 11)[16 * i + t]? = some x) ∧ (S.2 12)[i]? = some (nI r.1.length) ∧ (S.2 13)[i]? = some r.2.1 ∧ (S.2 14)[i]? = some r.2.2.1 ∧ (S.2 15)[i]? = some r.2.2.2.1 ∧ (S.2 16)[i]? = some r.2.2.2.2
def dLen (S : MS) : Prop := (S.2 11).length = 19200 ∧ (∀ q, 12 ≤ q → q ≤ 16 → (S.2 q).length = 1200) ∧ nrm (S.2 11)
def RepR (S : MS) (rs : List AR) : Prop := (S.1 33 = nI rs.length ∧ rs.length < 1200) ∧ dLen S ∧ ∀ i r, rs[i]? = some r → rowIs S i r
theorem repR_fr {S S' : MS} {rs : List AR} {J K : List Nat} (h : RepR S rs) (hf : mfr J K S S') (h33 : 33 ∉ J) (k1 : ∀ q, 11 ≤ q → q ≤ 16 → q ∉ K) : RepR S' rs := by
  have e : ∀ q, 11 ≤ q → q ≤ 16 → S'.2 q = S.2 q := fun q h1 h2 => hf.2 q (k1 q h1 h2)
  have e11 := e 11 (by decide) (by decide)
  refine ⟨by rw [hf.1 33 h33]; exact h.1, ⟨by rw [e11]; exact h.2.1.1, fun q h1 h2 => by rw [e q (by omega) h2]; exact h.2.1.2.1 q h1 h2, by rw [e11]; exact h.2.1.2.2⟩, fun i r hr => ?_⟩
  unfold rowIs
  rw [e11, e 12 (by decide) (by decide), e 13 (by decide) (by decide), e 14 (by decide) (by decide), e 15 (by decide) (by decide), e 16 (by decide) (by decide)]
  exact h.2.2 i r hr
theorem row_key {S : MS} {i : Nat} {r : AR} (h : rowIs S i r) : ((S.2 11).drop (16 * i)).take r.1.length = r.1 := by
  apply List.ext_getElem?
  intro t
  by_cases c : t < r.1.length
  · rw [dt_get c]
    obtain ⟨x, hx⟩ := some_of_lt c
    rw [hx]
    exact h.2.1 t x hx
  · rw [List.getElem?_eq_none (by rw [List.length_take]; omega), List.getElem?_eq_none (by omega)]
theorem row_nrm {S : MS} {i : Nat} {r : AR} (h : rowIs S i r) (hn : nrm (S.2 11)) : nrm r.1 := by
  intro v hv
  obtain ⟨t, ht⟩ := List.mem_iff_getElem?.mp hv
  exact nrm_get hn (h.2.1 t v ht)
/-- bytes of one worth are one -/
theorem b8_and (x : Int32) : b8 (x &&& 255) = b8 x := by
  unfold b8
  congr 1
  apply Int8.toBitVec_inj.mp
  rw [Int32.toBitVec_toInt8, Int32.toBitVec_toInt8, Int32.toBitVec_and]
  apply BitVec.eq_of_getLsbD_eq
  intro i hi
  rw [BitVec.getLsbD_signExtend, BitVec.getLsbD_signExtend, BitVec.getLsbD_and]
  have n3 : i < 32 := by omega
  have e : (255 : Int32).toBitVec.getLsbD i = true := by
    have : ∀ j : Fin 8, (255 : Int32).toBitVec.getLsbD j.1 = true := by decide
    exact this ⟨i, hi⟩
  simp only [if_pos n3, e, Bool.and_true]
theorem bv_inj {x y : Int32} (hx : b8 x = x) (hy : b8 y = y) (h : bv x = bv y) : x = y := by
  unfold bv at h
  have := Int32.toInt_inj.mp h
  rw [← hx, ← hy, ← b8_and x, ← b8_and y, this]
theorem csg0_eq : ∀ (xs ys : List Int32), nrm xs → nrm ys → csg xs ys = 0 → xs = ys
  | [], ys, _, _, h => by
    rw [csg_nil (Or.inl rfl)] at h
    have : ys.length = 0 := by simp only [List.length_nil] at h; omega
    exact (List.length_eq_zero_iff.mp this).symm
  | x :: xs, [], _, _, h => by
    rw [csg_nil (Or.inr rfl)] at h
    simp only [List.length_cons, List.length_nil] at h
    omega
  | x :: xs, y :: ys, hx, hy, h => by
    rw [csg_cons] at h
    by_cases e : bv x = bv y
    · rw [if_pos e] at h
      rw [csg0_eq xs ys (fun v hv => hx v (List.mem_cons_of_mem _ hv)) (fun v hv => hy v (List.mem_cons_of_mem _ hv)) h, bv_inj (hx x List.mem_cons_self) (hy y List.mem_cons_self) e]
    · rw [if_neg e] at h
      omega
section
variable {m : Nat} {g : Gh} {S : MS} {α : Type} {rs : List AR}
/-- a key within a row of bytes -/
def keyAt (S : MS) (q f : Nat) (t : List Int32) : Prop := f + t.length ≤ (S.2 q).length ∧ (S.2 q).length ≤ 60000 ∧ ((S.2 q).drop f).take t.length = t
theorem m_rord {q f i : Nat} {r : AR} {t : List Int32} {k : Int32 → M α} {Q : α → MS → Prop} (hM : Mk m g) (hR : RepR S rs) (hr : rs[i]? = some r) (hk : keyAt S q f t) (h : okM m g (k (cmpL r.1 t)) S Q) (h1 : 1 ≤ q := by decide) (h2 : q ≤ 26 := by decide) (hq : knd q = 21 := by rfl) : okM m g (bd (gR 12 27 m) (fun y2 => bd (gR 12 28 m) (fun y3 => bd (al 22 y3 (nI i)) (fun x4 => bd (X9_order y2 (16 * nI i) x4 (m + q) (nI f) (nI t.length)) k)))) S Q := by
  have ho := hR.2.2 i r hr
  have hi := lt_of_some hr
  have l11 := hR.2.1.1
  have hn := hR.1.2
  have hl := ho.1
  refine oM_gR hM (oM_gR hM (oM_al (q := 12) hM rfl ho.2.2.1 ?_))
  refine m_order (q := 11) (q' := q) hM (nI_16 i) rfl rfl rfl (by omega) hk.1 (by omega) hk.2.1 ?_ (by decide) (by decide) rfl h1 h2 hq
  rw [row_key ho, hk.2.2]
  exact h
theorem cmp_ge {xs ys : List Int32} (h1 : xs.length < 2 ^ 31) (h2 : ys.length < 2 ^ 31) : (0 ≤ cmpL xs ys) ↔ ¬ csg xs ys < 0 := by
  rw [← cmp_csg xs ys h1 h2, Int32.le_iff_toInt_le, Int32.toInt_zero]
  omega
theorem cmp_0 {xs ys : List Int32} (h1 : xs.length < 2 ^ 31) (h2 : ys.length < 2 ^ 31) : (cmpL xs ys = 0) ↔ csg xs ys = 0 := by
  rw [← cmp_csg xs ys h1 h2]
  constructor
  · intro h
    rw [h]
    rfl
  · intro h
    exact Int32.toInt_inj.mp h
theorem m_placeOf {q f : Nat} {t : List Int32} {x y : Int32} {k : Int32 → M α} {Q : α → MS → Prop} (hM : Mk m g) (hR : RepR S rs) (hk : keyAt S q f t) (hx : x = nI f) (hy : y = nI t.length) (h : okM m g (k (nI (plR t rs))) S Q) (h1 : 1 ≤ q := by decide) (h2 : q ≤ 26 := by decide) (hq : knd q = 21 := by rfl) : okM m g (bd (X9_placeOf m (m + q) x y) k) S Q := by
  subst hx hy
  refine oM_bd ?_
  have hn := hR.1.2
  have hk1 := hk.1
  have hk2 := hk.2.1
  have loop : ∀ (w i : Nat), rs.length - i < w → i ≤ rs.length → (∀ j r, j < i → rs[j]? = some r → csg r.1 t < 0) → okM m g (X9_placeOf_b3 w m (m + q) (nI f) (nI t.length) (nI i)) S (fun v S1 => okM m g (k v) S1 Q) := by
    intro w
    induction w with
    | zero => intro i h; omega
    | succ w ih =>
      intro i hw hi hb
      show okM m g (X9_placeOf_b3b (X9_placeOf_b3 w) m (m + q) (nI f) (nI t.length) (nI i)) S _
      unfold X9_placeOf_b3b
      refine oM_gI hM ?_
      rw [hR.1.1]
      by_cases c : i < rs.length
      · obtain ⟨r, hr⟩ := some_of_lt c
        have hl := (hR.2.2 i r hr).1
        refine oM_itF (nI_ge c (by omega)) (m_rord hM hR hr hk ?_ h1 h2 hq)
        by_cases c2 : csg r.1 t < 0
        · refine oM_itF (fun q => (cmp_ge (by omega) (by omega)).mp q c2) ?_
          rw [nI_1]
          refine ih (i + 1) (by omega) (by omega) (fun j r' hj hr' => ?_)
          by_cases e : j = i
          · rw [e, hr] at hr'
            cases hr'
            exact c2
          · exact hb j r' (by omega) hr'
        · refine oM_itT ((cmp_ge (by omega) (by omega)).mpr c2) (oM_pu ?_)
          rw [plR_eq (by omega) hb (fun r' hr' => by rw [hr] at hr'; cases hr'; exact c2)] at h
          exact h
      · refine oM_itT (nI_le (by omega) (by omega)) (oM_pu ?_)
        rw [plR_eq hi hb (fun r' hr' => absurd (lt_of_some hr') c)] at h
        exact h
  have : FU = 1000000 := rfl
  exact loop FU 0 (by omega) (Nat.zero_le _) (fun j r hj => absurd hj (Nat.not_lt_zero j))
theorem m_isAt {q f : Nat} {t : List Int32} {x y : Int32} {k : Int32 → M α} {Q : α → MS → Prop} (hM : Mk m g) (hR : RepR S rs) (hk : keyAt S q f t) (hx : x = nI f) (hy : y = nI t.length) (h0 : lokR t rs = none → okM m g (k 0) S Q) (h1 : ∀ r, lokR t rs = some r → okM m g (k 1) S Q) (q1 : 1 ≤ q := by decide) (q2 : q ≤ 26 := by decide) (hq : knd q = 21 := by rfl) : okM m g (bd (X9_isAt m (nI (plR t rs)) (m + q) x y) k) S Q := by
  subst hx hy
  refine oM_bd ?_
  unfold X9_isAt
  have hn := hR.1.2
  have hk1 := hk.1
  have hk2 := hk.2.1
  refine oM_gI hM ?_
  rw [hR.1.1]
  unfold lokR at h0 h1
  by_cases c : plR t rs < rs.length
  · obtain ⟨r, hr⟩ := some_of_lt c
    have hl := (hR.2.2 _ r hr).1
    rw [hr] at h0 h1
    refine oM_itF (nI_ge c (by omega)) (m_rord hM hR hr hk ?_ q1 q2 hq)
    by_cases c2 : csg r.1 t = 0
    · refine oM_itF (fun q => q ((cmp_0 (by omega) (by omega)).mpr c2)) (oM_pu (h1 r ?_))
      show (if isR t r then some r else none) = _
      unfold isR
      rw [decide_eq_true c2]
      rfl
    · refine oM_itT (fun q => c2 ((cmp_0 (by omega) (by omega)).mp q)) (oM_pu (h0 ?_))
      show (if isR t r then some r else none) = _
      unfold isR
      rw [decide_eq_false c2]
      rfl
  · have e := List.getElem?_eq_none (l := rs) (i := plR t rs) (by omega)
    have := plR_le t rs
    refine oM_itT (nI_le (by omega) (by omega)) (oM_pu (h0 ?_))
    rw [e]
    rfl
end
