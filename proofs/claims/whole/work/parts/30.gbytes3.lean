def t16 (x : Int32) : Int32 := sumT ((x &&& 15).toNatClampNeg)
/-- one byte into the sum -/
def cst (c x : Int32) : Int32 := ush (ush (c ^^^ (x &&& 255)) 4 ^^^ t16 (c ^^^ (x &&& 255))) 4 ^^^ t16 (ush (c ^^^ (x &&& 255)) 4 ^^^ t16 (c ^^^ (x &&& 255)))
def crcL (l : List Int32) : Int32 := l.foldl cst (-1) ^^^ (-1)
def cmpL : List Int32 → List Int32 → Int32
  | x :: xs, y :: ys => if (x &&& 255) - (y &&& 255) = 0 then cmpL xs ys else (x &&& 255) - (y &&& 255)
  | xs, ys => nI xs.length - nI ys.length
theorem and255 (x : Int32) : (x &&& 255) &&& 255 = x &&& 255 := by
  rw [Int32.and_assoc]
  rfl
theorem bat_lt {l : List Int32} {i : Nat} (h : i < l.length) (hl : l.length < 2 ^ 31) : bat l (nI i) = (l.getD i 0) &&& 255 := by
  unfold bat
  rw [if_neg (nI_pos (by omega)), if_neg (nI_ge h hl), nI_clamp (by omega)]
theorem dt_cons {l : List Int32} {i t : Nat} (h : i < t) (ht : t ≤ l.length) : (l.drop i).take (t - i) = l.getD i 0 :: (l.drop (i + 1)).take (t - (i + 1)) := by
  rw [List.drop_eq_getElem_cons (by omega)]
  have e : t - i = (t - (i + 1)) + 1 := by omega
  rw [e, List.take_succ_cons, List.getD_eq_getElem?_getD, List.getElem?_eq_getElem (by omega)]
  rfl
theorem nI_subc (a b i : Nat) : nI (a + i) - nI (b + i) = nI a - nI b := by
  rw [← nI_add, ← nI_add]
  grind
section
variable {α : Type} {g : Gh} {Q : Int32 → Gh → Prop}
theorem ok_t16 {Q : α → Gh → Prop} {x : Int32} {k : Int32 → M α} (hx : ok (k (t16 x)) g Q) : ok (bd (tb (x &&& 15)) k) g Q := by
  obtain ⟨j, hj, ej⟩ := pk_andE x (m := 15) 4 rfl
  refine ok_tb ej hj ?_
  have e : t16 x = sumT j := by
    unfold t16
    rw [ej, nI_clamp (by omega)]
  rw [← e]
  exact hx
theorem bsum_loop {b t : Nat} (hk : qk g b = 5) (ht : t ≤ (qB g b).length) (h6 : (qB g b).length < 2 ^ 31) : ∀ (m i : Nat) (c : Int32), t - i < m → i ≤ t → Q (((((qB g b).drop i).take (t - i)).foldl cst c) ^^^ (-1)) g → ok (X1_sum_b5 m b (nI t) c (nI i)) g Q := by
  intro m
  induction m with
  | zero => intro i c h; omega
  | succ m ih =>
    intro i c hm hi hq
    show ok (X1_sum_b5b (X1_sum_b5 m) b (nI t) c (nI i)) g Q
    unfold X1_sum_b5b
    by_cases e : i < t
    · refine ok_itF (nI_ge e (by omega)) (ok_ck hk (ok_bat hk (ok_bpu ?_)))
      rw [bat_lt (by omega) h6, and255]
      refine ok_t16 (ok_bpu (ok_t16 (ok_bpu ?_)))
      rw [nI_1]
      refine ih (i + 1) _ (by omega) (by omega) ?_
      rw [dt_cons e ht] at hq
      exact hq
    · have e2 : i = t := by omega
      subst e2
      refine ok_itT (nI_le (Nat.le_refl _) (by omega)) (ok_pu ?_)
      rw [Nat.sub_self] at hq
      exact hq
theorem ok_bsum {Q : α → Gh → Prop} {b f t : Nat} {x y : Int32} {k : Int32 → M α} (hk : qk g b = 5) (hf : x = nI f) (ht : y = nI t) (hft : f ≤ t) (htl : t ≤ (qB g b).length) (hx : ok (k (crcL (((qB g b).drop f).take (t - f)))) g Q) : ok (bd (X1_sum b x y) k) g Q := by
  subst hf ht
  refine ok_bd ?_
  unfold X1_sum
  refine ok_bpu ?_
  intro h ha
  have h6 : (qB g b).length < 2 ^ 31 := by
    obtain ⟨w, A⟩ := ha
    obtain ⟨r, b1, b2, b3, b4, b5, b6, b7, b8', b9, b10, b11⟩ := A.2.2.2.1 b hk
    omega
  have : FU = 1000000 := rfl
  have h7 : (qB g b).length ≤ 60000 := by
    obtain ⟨w, A⟩ := ha
    obtain ⟨r, b1, b2, b3, b4, b5, b6, b7, b8', b9, b10, b11⟩ := A.2.2.2.1 b hk
    omega
  exact bsum_loop hk htl h6 FU f (-1) (by omega) hft hx h ha
theorem cmp_nil {xs ys : List Int32} (h : xs = [] ∨ ys = []) : cmpL xs ys = nI xs.length - nI ys.length := by
  cases xs with
  | nil => unfold cmpL; rfl
  | cons x xs =>
    cases ys with
    | nil => unfold cmpL; rfl
    | cons y ys => rcases h with h | h <;> cases h
theorem bcmp_loop {b c f n : Nat} (hk : qk g b = 5) (hc : qk g c = 5) (hn : f + n ≤ (qB g c).length) (h6 : (qB g b).length < 2 ^ 31) (h7 : (qB g c).length < 2 ^ 31) : ∀ (m i : Nat), min (qB g b).length n - i < m → i ≤ min (qB g b).length n → Q (cmpL ((qB g b).drop i) ((((qB g c).drop f).take n).drop i)) g → ok (X1_compare_b13 m b c (nI f) (nI n) (nI (min (qB g b).length n)) (nI i)) g Q := by
  have hl2 : (((qB g c).drop f).take n).length = n := by
    rw [List.length_take, List.length_drop]
    omega
  intro m
  induction m with
  | zero => intro i h; omega
  | succ m ih =>
    intro i hm hi hq
    show ok (X1_compare_b13b (X1_compare_b13 m) b c (nI f) (nI n) (nI (min (qB g b).length n)) (nI i)) g Q
    unfold X1_compare_b13b
    by_cases e : i < min (qB g b).length n
    · refine ok_itF (nI_ge e (by omega)) (ok_ck hk (ok_bat hk (ok_ck hc (ok_bat hc (ok_bpu ?_)))))
      rw [nI_add, bat_lt (by omega) h6, bat_lt (by omega) h7]
      have e1 : (qB g b).drop i = (qB g b).getD i 0 :: (qB g b).drop (i + 1) := by
        rw [List.drop_eq_getElem_cons (by omega), List.getD_eq_getElem?_getD, List.getElem?_eq_getElem (by omega)]
        rfl
      have e2 : (((qB g c).drop f).take n).drop i = (qB g c).getD (f + i) 0 :: (((qB g c).drop f).take n).drop (i + 1) := by
        rw [List.drop_eq_getElem_cons (by omega), List.getD_eq_getElem?_getD]
        congr 1
        rw [List.getElem_take, List.getElem_drop, List.getElem?_eq_getElem (by omega)]
        rfl
      rw [e1, e2] at hq
      unfold cmpL at hq
      refine ok_it (fun hz => ?_) (fun hz => ?_)
      · rw [if_pos hz] at hq
        rw [nI_1]
        exact ih (i + 1) (by omega) (by omega) hq
      · rw [if_neg hz] at hq
        exact ok_pu hq
    · have e2 : i = min (qB g b).length n := by omega
      refine ok_itT (nI_le (by omega) (by omega)) ?_
      have hh : ok (bd (X1_size b) (fun x1 => pu (x1 - nI n))) g Q := by
        refine ok_bsize hk (ok_pu ?_)
        rw [cmp_nil, List.length_drop, List.length_drop, hl2] at hq
        · have e3 := nI_subc ((qB g b).length - i) (n - i) i
          rw [show (qB g b).length - i + i = (qB g b).length by omega, show n - i + i = n by omega] at e3
          rw [e3]
          exact hq
        · by_cases e4 : (qB g b).length ≤ i
          · exact Or.inl (List.drop_eq_nil_of_le e4)
          · exact Or.inr (List.drop_eq_nil_of_le (by omega))
      intro h ha
      obtain ⟨v, h', g', e5, q5⟩ := hh h ha
      refine ⟨v, h', g', ?_, q5⟩
      rw [← e5]
      show bq ((gI 4 1 b).1 h) _ = bq (bq ((gI 4 1 b).1 h) _) _
      cases (gI 4 1 b).1 h with
      | none => rfl
      | some q => rfl
theorem ok_bcmp {Q : α → Gh → Prop} {b c f n : Nat} {x y : Int32} {k : Int32 → M α} (hk : qk g b = 5) (hc : qk g c = 5) (hf : x = nI f) (hn : y = nI n) (hl : f + n ≤ (qB g c).length) (hx : ok (k (cmpL (qB g b) (((qB g c).drop f).take n))) g Q) : ok (bd (X1_compare b c x y) k) g Q := by
  subst hf hn
  refine ok_bd ?_
  intro h ha
  have h7 : (qB g b).length ≤ 60000 ∧ (qB g c).length ≤ 60000 := by
    obtain ⟨w, A⟩ := ha
    obtain ⟨r, b1, b2, b3, b4, b5, b6, b7, b8', b9, b10, b11⟩ := A.2.2.2.1 b hk
    obtain ⟨r2, c1, c2, c3, c4, c5, c6, c7, c8, c9, c10, c11⟩ := A.2.2.2.1 c hc
    omega
  have eF : FU = 1000000 := rfl
  have e1 : (X1_compare b c (nI f) (nI n)).1 h = (X1_compare_b13 FU b c (nI f) (nI n) (nI (min (qB g b).length n)) (nI 0)).1 h := by
    obtain ⟨w, A⟩ := ha
    obtain ⟨r, b1, b2, _⟩ := A.2.2.2.1 b hk
    unfold X1_compare
    rw [r_gI (c := 4) (k := 1) ((A.1.2.2 b (by omega)).1.trans hk) b2, r_pu, imn_nI (by omega) (by omega)]
    rfl
  rw [e1]
  exact bcmp_loop hk hc hl (by omega) (by omega) FU 0 (by omega) (by omega) hx h ha
theorem set4 {l : List Int32} (h : 4 ≤ l.length) (a b c d : Int32) : (((l.set 0 a).set 1 b).set 2 c).set 3 d = [a, b, c, d] ++ l.drop 4 := by
  match l, h with
  | x0 :: x1 :: x2 :: x3 :: xs, _ => rfl
theorem ok_bchg4 {Q : α → Gh → Prop} {b : Nat} {v : Int32} {k : Unit → M α} (hk : qk g b = 5) (hl : 4 ≤ (qB g b).length) (hx : ok (k ()) (wX g b (be4 v ++ (qB g b).drop 4)) Q) : ok (bd (X1_changeNumber b 0 v) k) g Q := by
  refine ok_bd ?_
  unfold X1_changeNumber
  have eF : FU = 999995 + 1 + 1 + 1 + 1 + 1 := rfl
  rw [eF]
  show ok (X1_changeNumber_b2b (X1_changeNumber_b2 (999995 + 1 + 1 + 1 + 1)) b 0 v 0) g _
  unfold X1_changeNumber_b2b
  refine ok_itF (by decide) (ok_ck hk (ok_bchg (j := 0) hk rfl (by omega) ?_))
  show ok (X1_changeNumber_b2b (X1_changeNumber_b2 (999995 + 1 + 1 + 1)) b 0 v 1) _ _
  unfold X1_changeNumber_b2b
  have q0 : qB (wX g b ((qB g b).set 0 (b8 (ush v (24 - 8 * 0))))) b = (qB g b).set 0 (b8 (ush v (24 - 8 * 0))) := vu_eq
  refine ok_itF (by decide) (ok_ck hk (ok_bchg (j := 1) hk rfl (by rw [q0, List.length_set]; omega) ?_))
  rw [q0, wX_wX]
  show ok (X1_changeNumber_b2b (X1_changeNumber_b2 (999995 + 1 + 1)) b 0 v 2) _ _
  unfold X1_changeNumber_b2b
  have q1 : ∀ l, qB (wX g b l) b = l := fun l => vu_eq
  refine ok_itF (by decide) (ok_ck hk (ok_bchg (j := 2) hk rfl (by rw [q1, List.length_set, List.length_set]; omega) ?_))
  rw [q1, wX_wX]
  show ok (X1_changeNumber_b2b (X1_changeNumber_b2 (999995 + 1)) b 0 v 3) _ _
  unfold X1_changeNumber_b2b
  refine ok_itF (by decide) (ok_ck hk (ok_bchg (j := 3) hk rfl (by rw [q1, List.length_set, List.length_set, List.length_set]; omega) ?_))
  rw [q1, wX_wX, set4 hl]
  show ok (X1_changeNumber_b2b (X1_changeNumber_b2 999995) b 0 v 4) _ _
  unfold X1_changeNumber_b2b
  exact ok_itT (by decide) (ok_pu hx)
end
