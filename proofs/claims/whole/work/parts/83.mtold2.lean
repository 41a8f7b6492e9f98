/-! the reference: rows make room, and close up -/
def shrS (S : MS) (p n : Nat) : MS := up6 S (fun A => shr A (16 * p) (16 * n) 16) (fun A => shr A p n 1)
def shlS (S : MS) (p c : Nat) : MS := up6 S (fun A => shl A (16 * (p + 1)) (16 * (c + 1)) 16) (fun A => shl A (p + 1) (c + 1) 1)
theorem shr_mv {A : List Int32} {k n : Nat} (h1 : k < n) (h2 : 16 * n + 16 ≤ A.length) : wrt (shr A (16 * (k + 1)) (16 * n) 16) (16 * (k + 1)) (rowB (shr A (16 * (k + 1)) (16 * n) 16) k) = shr A (16 * k) (16 * n) 16 := by
  have l1 := shr_len (A := A) (lo := 16 * (k + 1)) (hi := 16 * n) (d := 16) (by omega) (by omega)
  have l2 := rowB_len (A := shr A (16 * (k + 1)) (16 * n) 16) (a := k) (by omega)
  apply List.ext_getElem?
  intro j
  rw [wrt_get (by omega), l2, shr_get (by omega) (by omega), shr_get (by omega) (by omega)]
  by_cases c1 : j < 16 * (k + 1)
  · rw [if_pos c1, if_pos (by omega), if_pos (by omega)]
  · rw [if_neg c1]
    by_cases c2 : j < 16 * (k + 1) + 16
    · rw [if_pos c2, if_neg (by omega), if_pos (by omega)]
      unfold rowB
      rw [dt_get (by omega), shr_get (by omega) (by omega), if_pos (by omega)]
      congr 1
      omega
    · rw [if_neg c2, if_neg c2, if_neg (show ¬ j < 16 * k + 16 by omega)]
theorem shr_mv1 {A : List Int32} {k n : Nat} (h1 : k < n) (h2 : n + 1 ≤ A.length) : (shr A (k + 1) n 1).set (k + 1) ((shr A (k + 1) n 1).getD k 0) = shr A k n 1 := by
  have hk := getD_some (A := A) (a := k) (by omega)
  have e : (shr A (k + 1) n 1).getD k 0 = A.getD k 0 := by
    rw [List.getD_eq_getElem?_getD, shr_get (by omega) (by omega), if_pos (by omega), ← List.getD_eq_getElem?_getD]
  rw [e]
  exact shr_step h1 h2 hk
theorem shrS_step {S : MS} {k n : Nat} (hL : dLen S) (h1 : k < n) (h2 : n < 1200) : mvS (shrS S (k + 1) n) k (k + 1) = shrS S k n := by
  unfold mvS shrS
  rw [up6_up6]
  have := hL.1
  exact up6_eq (shr_mv h1 (by omega)) (fun q q1 q2 => shr_mv1 h1 (by have := hL.2.1 q q1 q2; omega))
theorem shl_mv {A : List Int32} {p c : Nat} (h1 : p ≤ c) (h2 : 16 * (c + 1) + 16 ≤ A.length) : wrt (shl A (16 * (p + 1)) (16 * (c + 1)) 16) (16 * c) (rowB (shl A (16 * (p + 1)) (16 * (c + 1)) 16) (c + 1)) = shl A (16 * (p + 1)) (16 * (c + 1 + 1)) 16 := by
  have l1 := shl_len (A := A) (lo := 16 * (p + 1)) (hi := 16 * (c + 1)) (d := 16) (by omega) (by omega) (by omega)
  have l2 := rowB_len (A := shl A (16 * (p + 1)) (16 * (c + 1)) 16) (a := c + 1) (by omega)
  apply List.ext_getElem?
  intro j
  rw [wrt_get (by omega), l2, shl_get (by omega) (by omega) (by omega), shl_get (by omega) (by omega) (by omega)]
  by_cases c1 : j < 16 * c
  · rw [if_pos c1]
    by_cases c3 : j < 16 * (p + 1) - 16
    · rw [if_pos c3, if_pos c3]
    · rw [if_neg c3, if_neg c3, if_pos (by omega), if_pos (by omega)]
  · rw [if_neg c1]
    by_cases c2 : j < 16 * c + 16
    · rw [if_pos c2, if_neg (by omega), if_pos (by omega)]
      unfold rowB
      rw [dt_get (by omega), shl_get (by omega) (by omega) (by omega), if_neg (by omega), if_neg (by omega)]
      congr 1
      omega
    · rw [if_neg c2, if_neg (by omega), if_neg (by omega), if_neg (by omega), if_neg (by omega)]
theorem shl_mv1 {A : List Int32} {p c : Nat} (h1 : p ≤ c) (h2 : c + 1 < A.length) : (shl A (p + 1) (c + 1) 1).set c ((shl A (p + 1) (c + 1) 1).getD (c + 1) 0) = shl A (p + 1) (c + 1 + 1) 1 := by
  have hk := getD_some (A := A) (a := c + 1) h2
  have e : (shl A (p + 1) (c + 1) 1).getD (c + 1) 0 = A.getD (c + 1) 0 := by
    rw [List.getD_eq_getElem?_getD, shl_same (by omega) (by omega) (by omega), ← List.getD_eq_getElem?_getD]
  rw [e]
  exact shl_step (by omega) (by omega) h2 hk
theorem shlS_step {S : MS} {p c : Nat} (hL : dLen S) (h1 : p ≤ c) (h2 : c + 1 < 1200) : mvS (shlS S p c) (c + 1) c = shlS S p (c + 1) := by
  unfold mvS shlS
  rw [up6_up6]
  have := hL.1
  exact up6_eq (shl_mv h1 (by omega)) (fun q q1 q2 => shl_mv1 h1 (by have := hL.2.1 q q1 q2; omega))
theorem shrS_len {S : MS} {p n : Nat} (hL : dLen S) (h1 : p ≤ n) (h2 : n < 1200) : dLen (shrS S p n) := by
  have := hL.1
  refine ⟨?_, ?_, ?_⟩
  · unfold shrS
    rw [up6_11, shr_len (by omega) (by omega)]
    exact this
  · intro q q1 q2
    have := hL.2.1 q q1 q2
    unfold shrS
    rw [up6_q q1 q2, shr_len h1 (by omega)]
    exact this
  · unfold shrS
    rw [up6_11]
    exact nrm_shr hL.2.2
theorem shlS_len {S : MS} {p c : Nat} (hL : dLen S) (h1 : p ≤ c) (h2 : c < 1200) : dLen (shlS S p c) := by
  have := hL.1
  refine ⟨?_, ?_, ?_⟩
  · unfold shlS
    rw [up6_11, shl_len (by omega) (by omega) (by omega)]
    exact this
  · intro q q1 q2
    have := hL.2.1 q q1 q2
    unfold shlS
    rw [up6_q q1 q2, shl_len (by omega) (by omega) (by omega)]
    exact this
  · unfold shlS
    rw [up6_11]
    exact nrm_shl hL.2.2
theorem rowIs_up {S S' : MS} {i j : Nat} {r : AR} (h : rowIs S i r) (h11 : ∀ t, t < 16 → (S'.2 11)[16 * j + t]? = (S.2 11)[16 * i + t]?) (hq : ∀ q, 12 ≤ q → q ≤ 16 → (S'.2 q)[j]? = (S.2 q)[i]?) : rowIs S' j r := by
  obtain ⟨a1, a2, a3, a4, a5, a6, a7⟩ := h
  refine ⟨a1, fun t x hx => ?_, (hq 12 (by decide) (by decide)).trans a3, (hq 13 (by decide) (by decide)).trans a4, (hq 14 (by decide) (by decide)).trans a5, (hq 15 (by decide) (by decide)).trans a6, (hq 16 (by decide) (by decide)).trans a7⟩
  have := lt_of_some hx
  exact (h11 t (by omega)).trans (a2 t x hx)
theorem row_shr_lo {S : MS} {p n i : Nat} {r : AR} (hL : dLen S) (h1 : p ≤ n) (h2 : n < 1200) (hi : i < p) (h : rowIs S i r) : rowIs (shrS S p n) i r := by
  have := hL.1
  refine rowIs_up h (fun t ht => ?_) (fun q q1 q2 => ?_)
  · unfold shrS
    rw [up6_11, shr_get (by omega) (by omega), if_pos (by omega)]
  · have := hL.2.1 q q1 q2
    unfold shrS
    rw [up6_q q1 q2, shr_get (by omega) (by omega), if_pos (by omega)]
theorem row_shr_hi {S : MS} {p n i : Nat} {r : AR} (hL : dLen S) (h1 : p ≤ i) (h2 : n < 1200) (hi : i < n) (h : rowIs S i r) : rowIs (shrS S p n) (i + 1) r := by
  have := hL.1
  refine rowIs_up h (fun t ht => ?_) (fun q q1 q2 => ?_)
  · unfold shrS
    rw [up6_11, shr_get (by omega) (by omega), if_neg (by omega), if_pos (by omega)]
    congr 1
    omega
  · have := hL.2.1 q q1 q2
    unfold shrS
    rw [up6_q q1 q2, shr_get (by omega) (by omega), if_neg (by omega), if_pos (by omega)]
    congr 1
theorem row_shl_lo {S : MS} {p c i : Nat} {r : AR} (hL : dLen S) (h1 : p ≤ c) (h2 : c < 1200) (hi : i < p) (h : rowIs S i r) : rowIs (shlS S p c) i r := by
  have := hL.1
  refine rowIs_up h (fun t ht => ?_) (fun q q1 q2 => ?_)
  · unfold shlS
    rw [up6_11, shl_get (by omega) (by omega) (by omega), if_pos (by omega)]
  · have := hL.2.1 q q1 q2
    unfold shlS
    rw [up6_q q1 q2, shl_get (by omega) (by omega) (by omega), if_pos (by omega)]
theorem row_shl_hi {S : MS} {p c i : Nat} {r : AR} (hL : dLen S) (h1 : p ≤ i) (h2 : c < 1200) (hi : i < c) (h : rowIs S (i + 1) r) : rowIs (shlS S p c) i r := by
  have := hL.1
  refine rowIs_up h (fun t ht => ?_) (fun q q1 q2 => ?_)
  · unfold shlS
    rw [up6_11, shl_get (by omega) (by omega) (by omega), if_neg (by omega), if_pos (by omega)]
    congr 1
    omega
  · have := hL.2.1 q q1 q2
    unfold shlS
    rw [up6_q q1 q2, shl_get (by omega) (by omega) (by omega), if_neg (by omega), if_pos (by omega)]
section
variable {m : Nat} {g : Gh} {S : MS} {α : Type} {rs : List AR}
theorem upI_up6 {F G : List Int32 → List Int32} {j : Nat} {v : Int32} : upI (up6 S F G) j v = up6 (upI S j v) F G := rfl
theorem dLen_I {j : Nat} {v : Int32} (h : dLen S) : dLen (upI S j v) := h
theorem rowIs_I {j i : Nat} {v : Int32} {r : AR} (h : rowIs S i r) : rowIs (upI S j v) i r := h
theorem m_untold {p : Nat} {x : Int32} {k : Unit → M α} {Q : α → MS → Prop} (hM : Mk m g) (hR : RepR S rs) (hx : x = nI p) (hp : p < rs.length) (h : ∀ S', RepR S' (rs.eraseIdx p) → mfr [33] [11, 12, 13, 14, 15, 16] S S' → okM m g (k ()) S' Q) : okM m g (bd (X9_untold m x) k) S Q := by
  subst hx
  refine oM_bd ?_
  unfold X9_untold
  have hn := hR.1.2
  obtain ⟨n, en⟩ : ∃ n, rs.length = n + 1 := ⟨rs.length - 1, by omega⟩
  refine oM_gI hM (oM_pI hM ?_)
  rw [hR.1.1, en]
  have e1 : nI (n + 1) - 1 = nI n := nI_subN (a := n + 1) (b := 1) (by omega)
  rw [e1]
  have hL : dLen (upI S 33 (nI n)) := hR.2.1
  have loop : ∀ (w i : Nat), n - i < w → p ≤ i → i ≤ n → okM m g (X9_untold_b12 w m (nI i)) (shlS (upI S 33 (nI n)) p i) (fun v S1 => okM m g (k v) S1 Q) := by
    intro w
    induction w with
    | zero => intro i h; omega
    | succ w ih =>
      intro i hw h1 h2
      show okM m g (X9_untold_b12b (X9_untold_b12 w) m (nI i)) _ _
      unfold X9_untold_b12b
      refine oM_gI hM ?_
      have e33 : (shlS (upI S 33 (nI n)) p i).1 33 = nI n := rfl
      rw [e33]
      by_cases c : i < n
      · refine oM_itF (nI_ge c (by omega)) (oM_ck hM (m_moves (a := i + 1) (b := i) hM (shlS_len hL h1 (by omega)) (nI_1 i) rfl (by omega) (by omega) (by omega) ?_))
        rw [shlS_step hL h1 (by omega), nI_1]
        exact ih (i + 1) (by omega) (by omega) (by omega)
      · have ei : i = n := by omega
        subst ei
        refine oM_itT (nI_le (Nat.le_refl _) (by omega)) (oM_pu (h _ ?_ ?_))
        · have el : (rs.eraseIdx p).length = i := by rw [List.length_eraseIdx, if_pos hp]; omega
          refine ⟨⟨by rw [el]; rfl, by omega⟩, shlS_len hL h1 (by omega), fun j r hj => ?_⟩
          have lj := lt_of_some hj
          rw [List.getElem?_eraseIdx] at hj
          by_cases c2 : j < p
          · rw [if_pos c2] at hj
            exact row_shl_lo hL h1 (by omega) c2 (hR.2.2 j r hj)
          · rw [if_neg c2] at hj
            exact row_shl_hi hL (by omega) (by omega) (by omega) (hR.2.2 (j + 1) r hj)
        · exact mfr_tr (mfr_I (by decide)) mfr_up6
  have : FU = 1000000 := rfl
  have q := loop FU p (by omega) (Nat.le_refl _) (by omega)
  have e0 : shlS (upI S 33 (nI n)) p p = upI S 33 (nI n) := up6_id shl_bot (fun q _ _ => shl_bot)
  rw [e0] at q
  exact q
end
