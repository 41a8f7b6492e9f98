/-! single steps over the first heap, as equations -/
section
variable {α β : Type} {h : Hp}
theorem r_it {c : Prop} [Decidable c] {x y : M α} : (it c x y).1 h = if c then x.1 h else y.1 h := by
  show (if c then x else y).1 h = _
  split <;> rfl
theorem r_pu {v : β} {f : β → M α} : (bd (pu v) f).1 h = (f v).1 h := rfl
theorem r_bd {x : M β} {f : β → M α} {v : β} {h1 : Hp} (hx : x.1 h = some (v, h1)) : (bd x f).1 h = (f v).1 h1 := by
  show bq (x.1 h) _ = _
  rw [hx]
  rfl
theorem r_ck {c a : Nat} {f : Unit → M α} (hk : kd h a = c + 1) : (bd (ck c a) f).1 h = (f ()).1 h := r_bd (by
  show (if kd h a = c + 1 then some () else none).map _ = _
  rw [if_pos hk]
  rfl)
theorem r_gI {c k a : Nat} {f : Int32 → M α} {x : Int32} (hk : kd h a = c + 1) (hv : fd h (100 * c + k) a = .int x) : (bd (gI c k a) f).1 h = (f x).1 h := r_bd (by
  show (if kd h a = c + 1 then vI (fd h (100 * c + k) a) else none).map _ = _
  rw [if_pos hk, hv]
  rfl)
theorem r_gR {c k a : Nat} {f : Nat → M α} {x : Nat} (hk : kd h a = c + 1) (hv : fd h (100 * c + k) a = .ref x) : (bd (gR c k a) f).1 h = (f x).1 h := r_bd (by
  show (if kd h a = c + 1 then vR (fd h (100 * c + k) a) else none).map _ = _
  rw [if_pos hk, hv]
  rfl)
theorem r_pV {c k a : Nat} {f : Unit → M α} {v : Value} (hk : kd h a = c + 1) : (bd (pV c k a v) f).1 h = (f ()).1 (sF h (100 * c + k) a v) := r_bd (by
  show (if (kd h a == c + 1) = true then _ else _) = _
  rw [if_pos (beq_iff_eq.mpr hk)])
theorem r_al {k a i : Nat} {f : Int32 → M α} (hk : kd h a = k) (hi : i < ln h a) (hl : ln h a ≤ 60000) : (bd (al k a (nI i)) f).1 h = (f (ar h a i)).1 h := r_bd (by
  show (if kd h a = k ∧ inx (nI i) (ln h a) = true then some (ar h a (nI i).toNatClampNeg) else none).map _ = _
  rw [if_pos ⟨hk, inx_nI hi (by omega)⟩, nI_clamp (by omega)]
  rfl)
theorem r_as {k a i : Nat} {x : Int32} {f : Unit → M α} (hk : kd h a = k) (hi : i < ln h a) (hl : ln h a ≤ 60000) : (bd (as k a (nI i) x) f).1 h = (f ()).1 (sA h a i (if k = 21 then x.toInt8.toInt32 else x)) := r_bd (by
  show (if (kd h a == k && inx (nI i) (ln h a)) = true then some ((), sA h a (nI i).toNatClampNeg _) else none) = _
  rw [if_pos, nI_clamp (by omega)]
  rw [Bool.and_eq_true, beq_iff_eq]
  exact ⟨hk, inx_nI hi (by omega)⟩)
theorem r_ao {a i r : Nat} {f : Nat → M α} (hk : kd h a = 24) (hi : i < ln h a) (hl : ln h a ≤ 60000) (hr : ra h a i = some r) : (bd (ao a (nI i)) f).1 h = (f r).1 h := r_bd (by
  show (if kd h a = 24 ∧ inx (nI i) (ln h a) = true then ra h a (nI i).toNatClampNeg else none).map _ = _
  rw [if_pos ⟨hk, inx_nI hi (by omega)⟩, nI_clamp (by omega), hr]
  rfl)
theorem r_az {a i : Nat} {r : Option Nat} {f : Unit → M α} (hk : kd h a = 24) (hi : i < ln h a) (hl : ln h a ≤ 60000) (hr : okO h r = true) : (bd (az a (nI i) r) f).1 h = (f ()).1 (sO h a i r) := r_bd (by
  show (if (kd h a == 24 && inx (nI i) (ln h a) && okO h r) = true then some ((), sO h a (nI i).toNatClampNeg _) else none) = _
  rw [if_pos, nI_clamp (by omega)]
  rw [Bool.and_eq_true, Bool.and_eq_true, beq_iff_eq]
  exact ⟨⟨hk, inx_nI hi (by omega)⟩, hr⟩)
theorem r_ay {a : Nat} {f : Int32 → M α} (hk : 21 ≤ kd h a ∧ kd h a ≤ 24) : (bd (ay a) f).1 h = (f (nI (ln h a))).1 h := r_bd (by
  show (if kd h a = 25 then some 0 else if 21 ≤ kd h a ∧ kd h a ≤ 24 then some (nI (ln h a)) else none).map _ = _
  rw [if_neg (by omega), if_pos hk]
  rfl)
theorem r_ay0 {a : Nat} {f : Int32 → M α} (hk : kd h a = 25) : (bd (ay a) f).1 h = (f 0).1 h := r_bd (by
  show (if kd h a = 25 then some 0 else if 21 ≤ kd h a ∧ kd h a ≤ 24 then some (nI (ln h a)) else none).map _ = _
  rw [if_pos hk]
  rfl)
theorem r_na {k n : Nat} {f : Nat → M α} (hn60 : n ≤ 60000) : (bd (na k (nI n)) f).1 h = (f (hn h)).1 (nA h k n) := r_bd (by
  show (if decide (0 ≤ nI n ∧ nI n ≤ 60000) = true then some (hn h, nA h k (nI n).toNatClampNeg) else none) = _
  rw [if_pos, nI_clamp (by omega)]
  rw [decide_eq_true_eq]
  exact ⟨nI_pos' (by omega), nI_le (b := 60000) hn60 (by omega)⟩)
theorem r_nw {c N : Nat} {f : Nat → M α} : (bd (nw c N) f).1 h = (f (hn h)).1 (nO h c N) := r_bd rfl
theorem r_ge {e : Nat} {f : Nat → M α} (he : fd h 99 0 = .ref e) : (bd ge f).1 h = (f e).1 h := r_bd (by
  show (vR (fd h 99 0)).map _ = _
  rw [he]
  rfl)
theorem r_cb {a b i j n : Nat} {f : Unit → M α} (h1 : kd h a = 21) (h2 : kd h b = 21) (h3 : i + n ≤ ln h a) (h4 : j + n ≤ ln h b) (h5 : ln h a ≤ 60000) (h6 : ln h b ≤ 60000) : (bd (cb a (nI i) b (nI j) (nI n)) f).1 h = (f ()).1 (sR h b (va_cpy (ar h a) (ar h b) i j n)) := r_bd (by
  show (if cpok h 21 a (nI i) b (nI j) (nI n) = true then some ((), sR h b (va_cpy _ _ (nI i).toNatClampNeg (nI j).toNatClampNeg (nI n).toNatClampNeg)) else none) = _
  rw [nI_clamp (by omega), nI_clamp (by omega), nI_clamp (by omega), if_pos]
  unfold cpok
  rw [nI_clamp (by omega), nI_clamp (by omega), nI_clamp (by omega)]
  rw [Bool.and_eq_true, Bool.and_eq_true, beq_iff_eq, beq_iff_eq, decide_eq_true_eq]
  exact ⟨⟨h1, h2⟩, nI_pos' (by omega), nI_pos' (by omega), nI_pos' (by omega), h3, h4⟩)
theorem r_cr {a b i j n : Nat} {f : Unit → M α} (h1 : kd h a = 24) (h2 : kd h b = 24) (h3 : i + n ≤ ln h a) (h4 : j + n ≤ ln h b) (h5 : ln h a ≤ 60000) (h6 : ln h b ≤ 60000) : (bd (cr a (nI i) b (nI j) (nI n)) f).1 h = (f ()).1 (sQ h b (va_cpy (ra h a) (ra h b) i j n)) := r_bd (by
  show (if cpok h 24 a (nI i) b (nI j) (nI n) = true then some ((), sQ h b (va_cpy _ _ (nI i).toNatClampNeg (nI j).toNatClampNeg (nI n).toNatClampNeg)) else none) = _
  rw [nI_clamp (by omega), nI_clamp (by omega), nI_clamp (by omega), if_pos]
  unfold cpok
  rw [nI_clamp (by omega), nI_clamp (by omega), nI_clamp (by omega)]
  rw [Bool.and_eq_true, Bool.and_eq_true, beq_iff_eq, beq_iff_eq, decide_eq_true_eq]
  exact ⟨⟨h1, h2⟩, nI_pos' (by omega), nI_pos' (by omega), nI_pos' (by omega), h3, h4⟩)
theorem imx_nI {a b : Nat} (ha : a < 2 ^ 31) (hb : b < 2 ^ 31) : imx (nI a) (nI b) = nI (max a b) := by
  unfold imx
  by_cases e : a < b
  · rw [if_pos (nI_lt e hb), Nat.max_eq_right (by omega)]
  · rw [if_neg (nI_nlt (by omega) ha), Nat.max_eq_left (by omega)]
theorem imn_nI {a b : Nat} (ha : a < 2 ^ 31) (hb : b < 2 ^ 31) : imn (nI a) (nI b) = nI (min a b) := by
  unfold imn
  by_cases e : b < a
  · rw [if_pos (nI_lt e ha), Nat.min_eq_right (by omega)]
  · rw [if_neg (nI_nlt (by omega) hb), Nat.min_eq_left (by omega)]
end
/-! new things -/
section
variable {α : Type} {g : Gh} {Q : α → Gh → Prop}
theorem abs_new {h : Hp} {g : Gh} (ha : Abs h g) : qk g (hn h) = 0 := by
  obtain ⟨w, a1, _⟩ := ha
  by_cases e : qk g (hn h) = 0
  · exact e
  · have := (a1.2.2 _ e).2
    rw [a1.1] at this
    omega
/-- a new plain object -/
theorem abs_wO {h : Hp} {c N : Nat} (hc : 3 ≤ c ∧ c ≤ 12 ∧ c ≠ 4) (ha : Abs h g) : Abs (nO h c N) (wO g c N) := by
  have hz := abs_new ha
  obtain ⟨w, ⟨k1, k2, k3⟩, a2, a3, a4, a5, a6, a7, a8⟩ := ha
  have old : ∀ a, qk g a ≠ 0 → a ≠ hn h ∧ va_up (qk g) (qn g) (c + 1) a = qk g a := fun a ha => by
    have := (k3 a ha).2
    exact ⟨by omega, vu_ne (by omega)⟩
  have new : ∀ a, va_up (qk g) (qn g) (c + 1) a ≠ 0 → a = qn g ∨ a ≠ qn g ∧ qk g a ≠ 0 ∧ va_up (qk g) (qn g) (c + 1) a = qk g a := fun a ha => by
    by_cases e : a = qn g
    · exact Or.inl e
    · rw [vu_ne e] at ha ⊢
      exact Or.inr ⟨e, ha, rfl⟩
  have dec : ∀ {c' k : Nat}, k < 100 → (100 * c' + k) / 100 = c' := fun hk => by omega
  refine ⟨w, ⟨?_, ?_, ?_⟩, ?_, ?_, ?_, ?_, ?_, ?_, ?_⟩
  · show hn h + 1 = qn g + 1
    omega
  · show sl h + N = qs g + N
    omega
  · intro a hk
    show va_up (kd h) (hn h) (c + 1) a = va_up (qk g) (qn g) (c + 1) a ∧ a < qn g + 1
    rcases new a hk with e | ⟨e1, e2, e3⟩
    · subst e
      rw [← k1, vu_eq, vu_eq]
      exact ⟨rfl, by omega⟩
    · rw [vu_ne (by omega), e3]
      exact ⟨(k3 a e2).1, by have := (k3 a e2).2; omega⟩
  · intro a c' k hk hd
    obtain ⟨d1, d2, d3, d4, d5⟩ := gIk_d hd
    have hk2 : va_up (qk g) (qn g) (c + 1) a = c' + 1 := hk
    show (if a = hn h then dF (100 * c' + k) else fd h (100 * c' + k) a) = .int (if (100 * c' + k) / 100 = c ∧ a = qn g then 0 else qi g (100 * c' + k) a)
    rw [dec d4]
    rcases new a (by omega) with e | ⟨e1, e2, e3⟩
    · subst e
      rw [vu_eq] at hk2
      rw [if_pos k1.symm, if_pos ⟨by omega, rfl⟩]
      unfold dF
      rw [if_neg]
      intro hm
      have := List.elem_iff.mpr hm
      rw [d5] at this
      cases this
    · rw [if_neg (by omega), if_neg (by omega)]
      exact a2 a c' k (e3.symm.trans hk2) hd
  · intro a c' k hk hd
    obtain ⟨d1, d2, d3, d4, d5⟩ := gRk_d hd
    have hk2 : va_up (qk g) (qn g) (c + 1) a = c' + 1 := hk
    show (if a = hn h then dF (100 * c' + k) else fd h (100 * c' + k) a) = .ref (if (100 * c' + k) / 100 = c ∧ a = qn g then 0 else qr g (100 * c' + k) a) ∨ (if a = hn h then dF (100 * c' + k) else fd h (100 * c' + k) a) = _ ∧ (if (100 * c' + k) / 100 = c ∧ a = qn g then 0 else qr g (100 * c' + k) a) = 0
    rw [dec d4]
    rcases new a (by omega) with e | ⟨e1, e2, e3⟩
    · subst e
      rw [vu_eq] at hk2
      rw [if_pos k1.symm, if_pos ⟨by omega, rfl⟩]
      unfold dF
      rw [if_pos (List.elem_iff.mp d5)]
      exact Or.inr ⟨rfl, rfl⟩
    · rw [if_neg (by omega), if_neg (by omega)]
      exact a3 a c' k (e3.symm.trans hk2) hd
  · intro b hk
    have hk2 : va_up (qk g) (qn g) (c + 1) b = 5 := hk
    rcases new b (by omega) with e | ⟨e1, e2, e3⟩
    · subst e
      rw [vu_eq] at hk2
      omega
    · obtain ⟨r, b1, b2, b3, b4, b5, b6, b7, b8⟩ := a4 b (e3.symm.trans hk2)
      refine ⟨r, ?_, ?_, ?_, ?_, ?_, b6, b7, b8⟩
      · show (if b = hn h then _ else _) = _
        rw [if_neg (by omega)]
        exact b1
      · show (if b = hn h then _ else _) = _
        rw [if_neg (by omega)]
        exact b2
      · show va_up (kd h) _ _ _ = _
        rw [vu_ne (by omega)]
        exact b3
      · show va_up (qk g) _ _ _ = _
        rw [vu_ne (by omega)]
        exact b4
      · show r < qn g + 1
        omega
  · intro b hk
    have hk2 : va_up (qk g) (qn g) (c + 1) b = 3 := hk
    obtain ⟨e9, f1, f2, f3, f4⟩ := a8
    rcases new b (by omega) with e | ⟨e1, e2, e3⟩
    · subst e
      rw [vu_eq] at hk2
      omega
    · obtain ⟨r, ⟨z, b0⟩, b1, b2, b3⟩ := a5 b (e3.symm.trans hk2)
      refine ⟨r, ⟨z, ?_⟩, ?_, ?_, ?_⟩
      · show (if b = hn h then _ else _) = _
        rw [if_neg (by omega)]
        exact b0
      · show (if b = hn h then _ else _) = _
        rw [if_neg (by omega)]
        exact b1
      · show (if b = hn h then _ else _) = _
        rw [if_neg (by omega)]
        exact b2
      · rcases b3 with ⟨c1, c2, c3, c4⟩ | ⟨c1, c2, c3, c4⟩
        · have er : r = e9 := by rw [c4] at f1; cases f1; rfl
          refine Or.inl ⟨c1, c2, ?_, ?_⟩
          · show va_up (kd h) _ _ _ = _
            rw [vu_ne (by omega)]
            exact c3
          · show (if 0 = hn h then _ else _) = _
            rw [if_neg (by omega)]
            exact c4
        · refine Or.inr ⟨?_, ?_, ?_, c4⟩
          · show va_up (kd h) _ _ _ = _
            rw [vu_ne (by omega)]
            exact c1
          · show va_up (qk g) _ _ _ = _
            rw [vu_ne (by omega)]
            exact c2
          · show r < qn g + 1
            omega
  · intro a hk
    have hk2 : va_up (qk g) (qn g) (c + 1) a = 21 ∨ va_up (qk g) (qn g) (c + 1) a = 22 := hk
    rcases new a (by omega) with e | ⟨e1, e2, e3⟩
    · subst e
      rw [vu_eq] at hk2
      omega
    · rw [e3] at hk2
      exact a6 a hk2
  · intro a hk
    have hk2 : va_up (qk g) (qn g) (c + 1) a = 23 := hk
    rcases new a (by omega) with e | ⟨e1, e2, e3⟩
    · subst e
      rw [vu_eq] at hk2
      omega
    · rw [e3] at hk2
      exact a7 a hk2
  · obtain ⟨e9, f1, f2, f3, f4⟩ := a8
    refine ⟨e9, ?_, ?_, ?_, ?_⟩
    · show (if 0 = hn h then _ else _) = _
      rw [if_neg (by omega)]
      exact f1
    · show va_up (kd h) _ _ _ = _
      rw [vu_ne (by omega)]
      exact f2
    · show va_up (qk g) _ _ _ = _
      rw [vu_ne (by omega)]
      exact f3
    · show e9 < qn g + 1
      omega
theorem ok_nw {c N : Nat} {k : Nat → M α} (hc : 3 ≤ c ∧ c ≤ 12 ∧ c ≠ 4) (hx : ok (k (qn g)) (wO g c N) Q) : ok (bd (nw c N) k) g Q := by
  refine ok_wr _ _ (fun h ha => ⟨_, ?_, abs_wO hc ha⟩) hx
  obtain ⟨w, a1, _⟩ := ha
  show some (hn h, _) = _
  rw [a1.1]
end
