/-! the reference: takes what is live, in order -/
def up4 (S : MS) (F : List Int32 → List Int32) (G : List Int32 → List Int32) : MS := (S.1, fun q => if q = 17 then F (S.2 17) else if 18 ≤ q ∧ q ≤ 20 then G (S.2 q) else S.2 q)
def shrL (S : MS) (p n : Nat) : MS := up4 S (fun A => shr A (16 * p) (16 * n) 16) (fun A => shr A p n 1)
theorem up4_3 {S : MS} {A : List Int32} {G : List Int32 → List Int32} : upA (upA (upA (upA S 17 A) 18 (G (S.2 18))) 19 (G (S.2 19))) 20 (G (S.2 20)) = up4 S (fun _ => A) G := by
  unfold upA up4
  congr 1
  funext q
  dsimp only
  unfold va_up
  by_cases c17 : q = 17
  · subst c17
    rfl
  by_cases c18 : q = 18
  · subst c18
    rfl
  by_cases c19 : q = 19
  · subst c19
    rfl
  by_cases c20 : q = 20
  · subst c20
    rfl
  simp only [if_neg c17, if_neg c18, if_neg c19, if_neg c20]
  rw [if_neg (by omega)]
theorem up4_up4 {S : MS} {F G F' G' : List Int32 → List Int32} : up4 (up4 S F G) F' G' = up4 S (fun A => F' (F A)) (fun A => G' (G A)) := by
  unfold up4
  dsimp only
  congr 1
  funext q
  by_cases c : q = 17
  · subst c
    rfl
  · rw [if_neg c, if_neg c]
    by_cases c2 : 18 ≤ q ∧ q ≤ 20
    · rw [if_pos c2, if_pos c2, if_neg c, if_pos c2]
    · rw [if_neg c2, if_neg c2, if_neg c, if_neg c2]
theorem up4_eq {S : MS} {F G F' G' : List Int32 → List Int32} (h1 : F (S.2 17) = F' (S.2 17)) (h2 : ∀ q, 18 ≤ q → q ≤ 20 → G (S.2 q) = G' (S.2 q)) : up4 S F G = up4 S F' G' := by
  unfold up4
  congr 1
  funext q
  by_cases c : q = 17
  · rw [if_pos c, if_pos c, h1]
  · rw [if_neg c, if_neg c]
    by_cases c2 : 18 ≤ q ∧ q ≤ 20
    · rw [if_pos c2, if_pos c2, h2 q c2.1 c2.2]
    · rw [if_neg c2, if_neg c2]
theorem up4_id {S : MS} {F G : List Int32 → List Int32} (h1 : F (S.2 17) = S.2 17) (h2 : ∀ q, 18 ≤ q → q ≤ 20 → G (S.2 q) = S.2 q) : up4 S F G = S := by
  have e : (fun q => if q = 17 then F (S.2 17) else if 18 ≤ q ∧ q ≤ 20 then G (S.2 q) else S.2 q) = S.2 := by
    funext q
    by_cases c : q = 17
    · rw [if_pos c, h1, c]
    · rw [if_neg c]
      by_cases c2 : 18 ≤ q ∧ q ≤ 20
      · rw [if_pos c2, h2 q c2.1 c2.2]
      · rw [if_neg c2]
  unfold up4
  rw [e]
theorem up4_17 {S : MS} {F G : List Int32 → List Int32} : (up4 S F G).2 17 = F (S.2 17) := rfl
theorem up4_q {S : MS} {F G : List Int32 → List Int32} {q : Nat} (h1 : 18 ≤ q) (h2 : q ≤ 20) : (up4 S F G).2 q = G (S.2 q) := by
  show (if q = 17 then F (S.2 17) else if 18 ≤ q ∧ q ≤ 20 then G (S.2 q) else S.2 q) = _
  rw [if_neg (by omega), if_pos ⟨h1, h2⟩]
theorem up4_o {S : MS} {F G : List Int32 → List Int32} {q : Nat} (h : q < 17 ∨ 20 < q) : (up4 S F G).2 q = S.2 q := by
  show (if q = 17 then F (S.2 17) else if 18 ≤ q ∧ q ≤ 20 then G (S.2 q) else S.2 q) = _
  rw [if_neg (by omega), if_neg (by omega)]
theorem mfr_up4 {J : List Nat} {S : MS} {F G : List Int32 → List Int32} : mfr J [17, 18, 19, 20] S (up4 S F G) := by
  refine ⟨fun _ _ => rfl, fun q hq => up4_o ?_⟩
  simp only [List.mem_cons, List.not_mem_nil, or_false, not_or] at hq
  omega
theorem lq_of {S : MS} (h : lLen S) {q : Nat} (h1 : 18 ≤ q) (h2 : q ≤ 20) : (S.2 q).length = 1200 := by
  rcases (show q = 18 ∨ q = 19 ∨ q = 20 by omega) with e | e | e
  · rw [e]
    exact h.2.1.1
  · rw [e]
    exact h.2.1.2.1
  · rw [e]
    exact h.2.1.2.2
theorem shrL_step {S : MS} {k n : Nat} (hL : lLen S) (h1 : k < n) (h2 : n < 1200) : up4 (shrL S (k + 1) n) (fun A => wrt A (16 * (k + 1)) (rowB A k)) (fun A => A.set (k + 1) (A.getD k 0)) = shrL S k n := by
  unfold shrL
  rw [up4_up4]
  have := hL.1
  exact up4_eq (shr_mv h1 (by omega)) (fun q q1 q2 => shr_mv1 h1 (by have := lq_of hL q1 q2; omega))
theorem shrL_len {S : MS} {p n : Nat} (hL : lLen S) (h1 : p ≤ n) (h2 : n < 1200) : lLen (shrL S p n) := by
  have := hL.1
  have G : ∀ q, 18 ≤ q → q ≤ 20 → ((shrL S p n).2 q).length = 1200 := by
    intro q q1 q2
    have := lq_of hL q1 q2
    unfold shrL
    rw [up4_q q1 q2, shr_len h1 (by omega)]
    exact this
  refine ⟨?_, ⟨G 18 (by decide) (by decide), G 19 (by decide) (by decide), G 20 (by decide) (by decide)⟩, ?_⟩
  · unfold shrL
    rw [up4_17, shr_len (by omega) (by omega)]
    exact this
  · unfold shrL
    rw [up4_17]
    exact nrm_shr hL.2.2
theorem upA_id {S : MS} {q : Nat} : upA S q (S.2 q) = S := by
  show (S.1, va_up S.2 q (S.2 q)) = S
  have : va_up S.2 q (S.2 q) = S.2 := by
    funext j
    unfold va_up
    split
    · rename_i e
      rw [e]
    · rfl
  rw [this]
theorem upA_upA {S : MS} {q : Nat} {A B : List Int32} : upA (upA S q A) q B = upA S q B := by
  show (S.1, va_up (va_up S.2 q A) q B) = _
  rw [va_va]
  rfl
section
variable {m : Nat} {g : Gh} {S : MS} {α : Type} {rs ms : List AR}
/-- sixteen bytes go from one row of bytes to a place of the row 17: one step -/
theorem cp17 {q a b t : Nat} {v : Int32} (hv : (rowB (S.2 q) a)[t]? = some v) (hb : 16 * b + 16 ≤ (S.2 17).length) (la : (rowB (S.2 q) a).length = 16) : upA (upA S 17 (wrt (S.2 17) (16 * b) ((rowB (S.2 q) a).take t))) 17 (((upA S 17 (wrt (S.2 17) (16 * b) ((rowB (S.2 q) a).take t))).2 17).set (16 * b + t) v) = upA S 17 (wrt (S.2 17) (16 * b) ((rowB (S.2 q) a).take (t + 1))) := by
  show upA (upA S 17 _) 17 ((wrt (S.2 17) (16 * b) ((rowB (S.2 q) a).take t)).set (16 * b + t) v) = _
  rw [upA_upA, wrt_step hv (by omega)]
theorem tk_b99 {k91 : Nat → Int32 → Int32 → Int32 → M Unit} {i p a : Nat} {Q : Unit → MS → Prop} (hM : Mk m g) (hL : lLen S) (ha : a + 1 < 1200) (h : okM m g (k91 m (nI i) (nI p) (nI a)) (up4 S (fun A => wrt A (16 * (a + 1)) (rowB A a)) (fun A => A.set (a + 1) (A.getD a 0))) Q) : okM m g (X9_takesLive_b99 k91 FU m (nI i) (nI p) (nI (a + 1)) 0) S Q := by
  have l17 := hL.1
  have lB := rowB_len (A := S.2 17) (a := a) (by omega)
  have ea : nI (a + 1) - 1 = nI a := nI_subN (a := a + 1) (b := 1) (by omega)
  have ea2 : nI (a + 1) + -1 = nI a := by
    rw [← Int32.sub_eq_add_neg]
    exact ea
  have loop : ∀ (w t : Nat), 16 - t < w → t ≤ 16 → okM m g (X9_takesLive_b99 k91 w m (nI i) (nI p) (nI (a + 1)) (nI t)) (upA S 17 (wrt (S.2 17) (16 * (a + 1)) ((rowB (S.2 17) a).take t))) Q := by
    intro w
    induction w with
    | zero => intro t h; omega
    | succ w ih =>
      intro t hw ht
      show okM m g (X9_takesLive_b99b k91 (X9_takesLive_b99 k91 w) m (nI i) (nI p) (nI (a + 1)) (nI t)) _ _
      unfold X9_takesLive_b99b
      rw [ea, ea2]
      have lt : ((rowB (S.2 17) a).take t).length = t := by rw [List.length_take]; omega
      have lw := wrt_len (A := S.2 17) (e := 16 * (a + 1)) (l := (rowB (S.2 17) a).take t) (by omega)
      by_cases c : t < 16
      · obtain ⟨v, hv⟩ := some_of_lt (show t < (rowB (S.2 17) a).length by omega)
        have hv2 : (S.2 17)[16 * a + t]? = some v := by
          unfold rowB at hv
          rw [dt_get c] at hv
          exact hv
        have g17 : ((upA S 17 (wrt (S.2 17) (16 * (a + 1)) ((rowB (S.2 17) a).take t))).2 17)[16 * a + t]? = some v := by
          show (wrt (S.2 17) (16 * (a + 1)) ((rowB (S.2 17) a).take t))[16 * a + t]? = some v
          rw [wrt_get (by omega), lt, if_pos (by omega), hv2]
        have ia : 16 * nI a + nI t = nI (16 * a + t) := by rw [nI_16, nI_add]
        have ib : 16 * nI (a + 1) + nI t = nI (16 * (a + 1) + t) := by rw [nI_16, nI_add]
        have hle : ¬ (16 : Int32) ≤ nI t := nI_ge (b := 16) c (by decide)
        refine oM_itF hle (oM_gR hM (oM_gR hM (oM_al (q := 17) hM ia g17 (oM_as (q := 17) (i := 16 * (a + 1) + t) hM ib ?_ ?_))))
        · show 16 * (a + 1) + t < (wrt (S.2 17) (16 * (a + 1)) ((rowB (S.2 17) a).take t)).length
          omega
        · rw [nI_1, if_pos rfl]
          have e1 : v.toInt8.toInt32 = v := nrm_get hL.2.2 hv2
          rw [e1, cp17 hv (by omega) lB]
          exact ih (t + 1) (by omega) (by omega)
      · have et : t = 16 := by omega
        subst et
        rw [show (rowB (S.2 17) a).take 16 = rowB (S.2 17) a from List.take_of_length_le (by omega)]
        have G : ∀ q, 18 ≤ q → q ≤ 20 → (S.2 q)[a]? = some ((S.2 q).getD a 0) ∧ a + 1 < (S.2 q).length := by
          intro q h1 h2
          have := lq_of hL h1 h2
          exact ⟨getD_some (by omega), by omega⟩
        obtain ⟨a18, b18⟩ := G 18 (by decide) (by decide)
        obtain ⟨a19, b19⟩ := G 19 (by decide) (by decide)
        obtain ⟨a20, b20⟩ := G 20 (by decide) (by decide)
        refine oM_itT (nI_le (a := 16) (b := 16) (by omega) (by decide)) (oM_gR hM (oM_gR hM (oM_al (q := 18) hM rfl a18 (oM_as (q := 18) hM rfl b18 ?_))))
        refine oM_gR hM (oM_gR hM (oM_al (q := 19) hM rfl a19 (oM_as (q := 19) hM rfl b19 ?_)))
        refine oM_gR hM (oM_gR hM (oM_al (q := 20) hM rfl a20 (oM_as (q := 20) hM rfl b20 ?_)))
        have e := up4_3 (S := S) (A := wrt (S.2 17) (16 * (a + 1)) (rowB (S.2 17) a)) (G := fun A => A.set (a + 1) (A.getD a 0))
        have e2 : okM m g (k91 m (nI i) (nI p) (nI a)) (upA (upA (upA (upA S 17 (wrt (S.2 17) (16 * (a + 1)) (rowB (S.2 17) a))) 18 ((S.2 18).set (a + 1) ((S.2 18).getD a 0))) 19 ((S.2 19).set (a + 1) ((S.2 19).getD a 0))) 20 ((S.2 20).set (a + 1) ((S.2 20).getD a 0))) Q := by
          rw [e]
          exact h
        exact e2
  have : FU = 1000000 := rfl
  have q := loop FU 0 (by omega) (Nat.zero_le _)
  rw [List.take_zero, wrt_nil, upA_id] at q
  exact q
/-- the new one at place p -/
def insT (S : MS) (i p : Nat) (r : AR) : MS := upI (upA (upA (upA (upA S 17 (wrt (S.2 17) (16 * p) (rowB (S.2 11) i))) 18 ((S.2 18).set p (nI r.1.length))) 19 ((S.2 19).set p r.2.1)) 20 ((S.2 20).set p r.2.2.1)) 42 (S.1 42 + 1)
theorem tk_b188 {k12 : Nat → Int32 → M Unit} {i p : Nat} {r : AR} {Q : Unit → MS → Prop} (hM : Mk m g) (hL : lLen S) (hR : RepR S rs) (hr : rs[i]? = some r) (hp : p < 1200) (h : okM m g (k12 m (nI (i + 1))) (insT S i p r) Q) : okM m g (X9_takesLive_b188 k12 FU m (nI i) (nI p) 0) S Q := by
  have l17 := hL.1
  have l11 := hR.2.1.1
  have hi := lt_of_some hr
  have hn := hR.1.2
  obtain ⟨a1, a2, a3, a4, a5, a6, a7⟩ := hR.2.2 i r hr
  have lB := rowB_len (A := S.2 11) (a := i) (by omega)
  have loop : ∀ (w t : Nat), 16 - t < w → t ≤ 16 → okM m g (X9_takesLive_b188 k12 w m (nI i) (nI p) (nI t)) (upA S 17 (wrt (S.2 17) (16 * p) ((rowB (S.2 11) i).take t))) Q := by
    intro w
    induction w with
    | zero => intro t h; omega
    | succ w ih =>
      intro t hw ht
      show okM m g (X9_takesLive_b188b k12 (X9_takesLive_b188 k12 w) m (nI i) (nI p) (nI t)) _ _
      unfold X9_takesLive_b188b
      have lt : ((rowB (S.2 11) i).take t).length = t := by rw [List.length_take]; omega
      have lw := wrt_len (A := S.2 17) (e := 16 * p) (l := (rowB (S.2 11) i).take t) (by omega)
      by_cases c : t < 16
      · obtain ⟨v, hv⟩ := some_of_lt (show t < (rowB (S.2 11) i).length by omega)
        have hv2 : (S.2 11)[16 * i + t]? = some v := by
          unfold rowB at hv
          rw [dt_get c] at hv
          exact hv
        have ia : 16 * nI i + nI t = nI (16 * i + t) := by rw [nI_16, nI_add]
        have ib : 16 * nI p + nI t = nI (16 * p + t) := by rw [nI_16, nI_add]
        have hle : ¬ (16 : Int32) ≤ nI t := nI_ge (b := 16) c (by decide)
        refine oM_itF hle (oM_gR hM (oM_gR hM (oM_al (q := 11) hM ia hv2 (oM_as (q := 17) (i := 16 * p + t) hM ib ?_ ?_))))
        · show 16 * p + t < (wrt (S.2 17) (16 * p) ((rowB (S.2 11) i).take t)).length
          omega
        · rw [nI_1, if_pos rfl]
          have e1 : v.toInt8.toInt32 = v := nrm_get hR.2.1.2.2 hv2
          rw [e1, cp17 hv (by omega) lB]
          exact ih (t + 1) (by omega) (by omega)
      · have et : t = 16 := by omega
        subst et
        rw [show (rowB (S.2 11) i).take 16 = rowB (S.2 11) i from List.take_of_length_le (by omega)]
        have b18 : p < (S.2 18).length := by rw [hL.2.1.1]; exact hp
        have b19 : p < (S.2 19).length := by rw [hL.2.1.2.1]; exact hp
        have b20 : p < (S.2 20).length := by rw [hL.2.1.2.2]; exact hp
        refine oM_itT (nI_le (a := 16) (b := 16) (by omega) (by decide)) (oM_gR hM (oM_gR hM (oM_al (q := 12) hM rfl a3 (oM_as (q := 18) hM rfl b18 ?_))))
        refine oM_gR hM (oM_gR hM (oM_al (q := 13) hM rfl a4 (oM_as (q := 19) hM rfl b19 ?_)))
        refine oM_gR hM (oM_gR hM (oM_al (q := 14) hM rfl a5 (oM_as (q := 20) hM rfl b20 (oM_gI hM (oM_pI hM ?_)))))
        rw [nI_1]
        exact h
  have : FU = 1000000 := rfl
  have q := loop FU 0 (by omega) (Nat.zero_le _)
  rw [List.take_zero, wrt_nil, upA_id] at q
  exact q
def ahL (a r : AR) : Bool := decide (r.2.1 < a.2.1 ∨ (a.2.1 = r.2.1 ∧ r.2.2.1 < a.2.2.1))
def posT (ms : List AR) (r : AR) : Nat → Nat
  | 0 => 0
  | t + 1 => match ms[t]? with
    | none => t + 1
    | some a => match ahL a r with
      | true => posT ms r t
      | false => t + 1
def insA (r : AR) (ms : List AR) : List AR := ms.take (posT ms r ms.length) ++ r :: ms.drop (posT ms r ms.length)
theorem posT_le (r : AR) : ∀ t, posT ms r t ≤ t
  | 0 => Nat.le_refl _
  | t + 1 => by
    unfold posT
    split
    · exact Nat.le_refl _
    · split
      · exact Nat.le_succ_of_le (posT_le r t)
      · exact Nat.le_refl _
theorem insA_len (r : AR) : (insA r ms).length = ms.length + 1 := by
  unfold insA
  have := posT_le (ms := ms) r ms.length
  rw [List.length_append, List.length_cons, List.length_take, List.length_drop]
  omega
theorem insA_get {r : AR} {p : Nat} (hp : p ≤ ms.length) (j : Nat) : (ms.take p ++ r :: ms.drop p)[j]? = if j < p then ms[j]? else if j = p then some r else ms[j - 1]? := by
  have l1 : (ms.take p).length = p := by rw [List.length_take]; omega
  by_cases c : j < p
  · rw [if_pos c, List.getElem?_append_left (by omega), List.getElem?_take, if_pos c]
  · rw [if_neg c, List.getElem?_append_right (by omega), l1]
    by_cases c2 : j = p
    · rw [if_pos c2, c2, Nat.sub_self]
      rfl
    · rw [if_neg c2]
      obtain ⟨d, hd⟩ : ∃ d, j = p + d + 1 := ⟨j - p - 1, by omega⟩
      subst hd
      rw [show p + d + 1 - p = d + 1 by omega, List.getElem?_cons_succ, List.getElem?_drop]
      congr 1
theorem insT_rep {i p : Nat} {r : AR} (hL : RepL S ms) (hR : RepR S rs) (hr : rs[i]? = some r) (hp : p ≤ ms.length) (hn : ms.length + 1 < 1200) : RepL (insT (shrL S p ms.length) i p r) (ms.take p ++ r :: ms.drop p) ∧ mfr [42] [17, 18, 19, 20] S (insT (shrL S p ms.length) i p r) := by
  have l17 := hL.2.1.1
  have l11 := hR.2.1.1
  have hi := lt_of_some hr
  have hn2 := hR.1.2
  have G : ∀ q, 18 ≤ q → q ≤ 20 → (S.2 q).length = 1200 := fun q h1 h2 => lq_of hL.2.1 h1 h2
  have sl := shrL_len hL.2.1 hp hL.1.2
  obtain ⟨a1, a2, a3, a4, a5, a6, a7⟩ := hR.2.2 i r hr
  have e11 : (shrL S p ms.length).2 11 = S.2 11 := up4_o (Or.inl (by decide))
  have lB := rowB_len (A := S.2 11) (a := i) (by omega)
  have x17 : (insT (shrL S p ms.length) i p r).2 17 = wrt (shr (S.2 17) (16 * p) (16 * ms.length) 16) (16 * p) (rowB (S.2 11) i) := by
    show wrt ((shrL S p ms.length).2 17) (16 * p) (rowB ((shrL S p ms.length).2 11) i) = _
    rw [e11]
    rfl
  have x18 : (insT (shrL S p ms.length) i p r).2 18 = (shr (S.2 18) p ms.length 1).set p (nI r.1.length) := rfl
  have x19 : (insT (shrL S p ms.length) i p r).2 19 = (shr (S.2 19) p ms.length 1).set p r.2.1 := rfl
  have x20 : (insT (shrL S p ms.length) i p r).2 20 = (shr (S.2 20) p ms.length 1).set p r.2.2.1 := rfl
  have ls : (shr (S.2 17) (16 * p) (16 * ms.length) 16).length = 19200 := by rw [shr_len (by omega) (by omega)]; exact l17
  have g3 : ∀ q v j, 18 ≤ q → q ≤ 20 → ((shr (S.2 q) p ms.length 1).set p v)[j]? = if j = p then some v else if j < p then (S.2 q)[j]? else if j < ms.length + 1 then (S.2 q)[j - 1]? else (S.2 q)[j]? := by
    intro q v j h1 h2
    have := G q h1 h2
    rw [List.getElem?_set, shr_len hp (by omega), shr_get hp (by omega)]
    by_cases c : j = p
    · subst c
      rw [if_pos rfl, if_pos (by omega), if_pos rfl]
    · rw [if_neg (fun q => c q.symm), if_neg c]
      by_cases c2 : j < p
      · rw [if_pos (by omega), if_pos c2]
      · rw [if_neg (by omega), if_neg c2]
  refine ⟨⟨⟨?_, ?_⟩, ⟨?_, ⟨?_, ?_, ?_⟩, ?_⟩, ?_⟩, ?_⟩
  · show S.1 42 + 1 = _
    rw [hL.1.1, nI_1]
    congr 1
    rw [List.length_append, List.length_cons, List.length_take, List.length_drop]
    omega
  · rw [List.length_append, List.length_cons, List.length_take, List.length_drop]
    omega
  · rw [x17, wrt_len (by omega)]
    exact ls
  · rw [x18, List.length_set, shr_len hp (by have := G 18 (by decide) (by decide); omega)]
    exact G 18 (by decide) (by decide)
  · rw [x19, List.length_set, shr_len hp (by have := G 19 (by decide) (by decide); omega)]
    exact G 19 (by decide) (by decide)
  · rw [x20, List.length_set, shr_len hp (by have := G 20 (by decide) (by decide); omega)]
    exact G 20 (by decide) (by decide)
  · rw [x17]
    exact nrm_wrt (nrm_shr hL.2.1.2.2) (nrm_rowB hR.2.1.2.2)
  · intro j x hx
    rw [insA_get hp] at hx
    unfold livIs
    rw [x17, x18, x19, x20, g3 18 _ j (by decide) (by decide), g3 19 _ j (by decide) (by decide), g3 20 _ j (by decide) (by decide)]
    by_cases c1 : j < p
    · rw [if_pos c1] at hx
      obtain ⟨b1, b2, b3, b4, b5⟩ := hL.2.2 j x hx
      have nj : ¬ j = p := by omega
      simp only [if_neg nj, if_pos c1]
      refine ⟨b1, fun t y hy => ?_, b3, b4, b5⟩
      have := lt_of_some hy
      rw [wrt_get (by omega), if_pos (by omega), shr_get (by omega) (by omega), if_pos (by omega)]
      exact b2 t y hy
    · rw [if_neg c1] at hx
      by_cases c2 : j = p
      · subst c2
        rw [if_pos rfl] at hx
        cases hx
        rw [if_pos rfl, if_pos rfl, if_pos rfl]
        refine ⟨a1, fun t y hy => ?_, rfl, rfl, rfl⟩
        have := lt_of_some hy
        rw [wrt_get (by omega), if_neg (by omega), if_pos (by omega), Nat.add_sub_cancel_left]
        unfold rowB
        rw [dt_get (by omega)]
        exact a2 t y hy
      · rw [if_neg c2] at hx
        have hj := lt_of_some hx
        obtain ⟨b1, b2, b3, b4, b5⟩ := hL.2.2 (j - 1) x hx
        rw [if_neg c2, if_neg c2, if_neg c2, if_neg c1, if_neg c1, if_neg c1, if_pos (by omega), if_pos (by omega), if_pos (by omega)]
        refine ⟨b1, fun t y hy => ?_, b3, b4, b5⟩
        have := lt_of_some hy
        rw [wrt_get (by omega), if_neg (by omega), if_neg (by omega), shr_get (by omega) (by omega), if_neg (by omega), if_pos (by omega), ← b2 t y hy]
        congr 1
        omega
  · refine mfr_tr (mfr_up4 (F := fun A => shr A (16 * p) (16 * ms.length) 16) (G := fun A => shr A p ms.length 1)) ?_
    exact mfr_tr (mfr_tr (mfr_tr (mfr_tr (mfr_A (by decide)) (mfr_A (by decide))) (mfr_A (by decide))) (mfr_A (by decide))) (mfr_I (by decide))
theorem tk_b91 {k12 : Nat → Int32 → M Unit} {i p n : Nat} {Q : Unit → MS → Prop} (hM : Mk m g) (hL : lLen S) (hpn : p ≤ n) (hn : n < 1200) (h : okM m g (X9_takesLive_b188 k12 FU m (nI i) (nI p) 0) (shrL S p n) Q) : okM m g (X9_takesLive_b91 k12 FU m (nI i) (nI p) (nI n)) S Q := by
  have loop : ∀ (w j : Nat), j - p < w → p ≤ j → j ≤ n → okM m g (X9_takesLive_b91 k12 w m (nI i) (nI p) (nI j)) (shrL S j n) Q := by
    intro w
    induction w with
    | zero => intro j h; omega
    | succ w ih =>
      intro j hw h1 h2
      show okM m g (X9_takesLive_b91b k12 (X9_takesLive_b91 k12 w) m (nI i) (nI p) (nI j)) _ _
      unfold X9_takesLive_b91b
      by_cases c : p < j
      · obtain ⟨a, ea⟩ : ∃ a, j = a + 1 := ⟨j - 1, by omega⟩
        subst ea
        refine oM_itF (nI_ge c (by omega)) (tk_b99 hM (shrL_len hL h2 hn) (by omega) ?_)
        rw [shrL_step hL (by omega) hn]
        exact ih a (by omega) (by omega) (by omega)
      · have ej : j = p := by omega
        subst ej
        exact oM_itT (nI_le (Nat.le_refl _) (by omega)) h
  have : FU = 1000000 := rfl
  have q := loop FU n (by omega) hpn (Nat.le_refl _)
  have e : shrL S n n = S := by
    unfold shrL
    exact up4_id shr_top (fun q _ _ => shr_top)
  rw [e] at q
  exact q
theorem tk_b25 {k12 : Nat → Int32 → M Unit} {i : Nat} {r : AR} {Q : Unit → MS → Prop} (hM : Mk m g) (hL : RepL S ms) (hR : RepR S rs) (hr : rs[i]? = some r) (hn : ms.length + 1 < 1200) (h : ∀ S', RepL S' (insA r ms) → mfr [42] [17, 18, 19, 20] S S' → okM m g (k12 m (nI (i + 1))) S' Q) : okM m g (X9_takesLive_b25 k12 FU m (nI i) (nI ms.length)) S Q := by
  obtain ⟨a1, a2, a3, a4, a5, a6, a7⟩ := hR.2.2 i r hr
  have pl := posT_le (ms := ms) r ms.length
  obtain ⟨e1, e2⟩ := insT_rep hL hR hr pl hn
  have sl := shrL_len hL.2.1 pl hL.1.2
  have R2 : RepR (shrL S (posT ms r ms.length) ms.length) rs := repR_fr (J := []) hR mfr_up4 (by decide) (fun q h1 h2 => by simp only [List.mem_cons, List.not_mem_nil, or_false]; omega)
  have fini : okM m g (X9_takesLive_b86 k12 m (nI i) (nI (posT ms r ms.length))) S Q := by
    unfold X9_takesLive_b86
    refine oM_gI hM ?_
    rw [hL.1.1]
    exact tk_b91 hM hL.2.1 pl hL.1.2 (tk_b188 hM sl R2 hr (by omega) (h _ e1 e2))
  have loop : ∀ (w t : Nat), t < w → t ≤ ms.length → posT ms r t = posT ms r ms.length → okM m g (X9_takesLive_b25 k12 w m (nI i) (nI t)) S Q := by
    intro w
    induction w with
    | zero => intro t h; omega
    | succ w ih =>
      intro t hw ht ep
      show okM m g (X9_takesLive_b25b k12 (X9_takesLive_b25 k12 w) m (nI i) (nI t)) S Q
      unfold X9_takesLive_b25b
      cases t with
      | zero =>
        refine oM_itT (by decide) ?_
        rw [← ep] at fini
        exact fini
      | succ t =>
        obtain ⟨x, hx⟩ := some_of_lt (show t < ms.length by omega)
        obtain ⟨b1, b2, b3, b4, b5⟩ := hL.2.2 t x hx
        have ea : nI (t + 1) - 1 = nI t := nI_subN (a := t + 1) (b := 1) (by omega)
        have ea2 : nI (t + 1) + -1 = nI t := by
          rw [← Int32.sub_eq_add_neg]
          exact ea
        rw [ea]
        have stay : ahL x r = false → okM m g (X9_takesLive_b86 k12 m (nI i) (nI (t + 1))) S Q := by
          intro e
          have : posT ms r (t + 1) = t + 1 := by
            unfold posT
            rw [hx]
            dsimp only
            rw [e]
          rw [← ep, this] at fini
          exact fini
        have go : ahL x r = true → okM m g (X9_takesLive_b80 (X9_takesLive_b25 k12 w) m (nI i) (nI (t + 1))) S Q := by
          intro e
          have : posT ms r (t + 1) = posT ms r t := by
            conv => lhs; unfold posT
            rw [hx]
            dsimp only
            rw [e]
          unfold X9_takesLive_b80
          rw [ea2]
          exact ih t (by omega) (by omega) (this.symm.trans ep)
        refine oM_itF (nI_ge (a := 0) (b := t + 1) (by omega) (by omega)) (oM_gR hM (oM_al (q := 19) hM rfl b4 (oM_gR hM (oM_al (q := 13) hM rfl a4 ?_))))
        by_cases c1 : r.2.1 < x.2.1
        · exact oM_itT c1 (go (decide_eq_true (Or.inl c1)))
        · refine oM_itF c1 (oM_gR hM (oM_al (q := 19) hM rfl b4 (oM_gR hM (oM_al (q := 13) hM rfl a4 ?_))))
          by_cases c2 : x.2.1 = r.2.1
          · refine oM_itF (fun q => q c2) (oM_gR hM (oM_al (q := 20) hM rfl b5 (oM_gR hM (oM_al (q := 14) hM rfl a5 ?_))))
            by_cases c3 : r.2.2.1 < x.2.2.1
            · exact oM_itF (Int32.not_le.mpr c3) (go (decide_eq_true (Or.inr ⟨c2, c3⟩)))
            · exact oM_itT (Int32.not_lt.mp c3) (stay (decide_eq_false (fun q => q.elim c1 (fun q => c3 q.2))))
          · exact oM_itT c2 (stay (decide_eq_false (fun q => q.elim c1 (fun q => c2 q.1))))
  have : FU = 1000000 := rfl
  have := hL.1.2
  exact loop FU ms.length (by omega) (Nat.le_refl _) rfl
def srtA (rs : List AR) : List AR := rs.foldl (fun ms r => insA r ms) []
theorem m_takesLive {k : Unit → M α} {Q : α → MS → Prop} (hM : Mk m g) (hL : lLen S) (hR : RepR S rs) (h : ∀ S', RepL S' (srtA rs) → S'.1 43 = 0 → mfr [42, 43] [17, 18, 19, 20] S S' → okM m g (k ()) S' Q) : okM m g (bd (X9_takesLive m) k) S Q := by
  refine oM_bd ?_
  unfold X9_takesLive
  refine oM_pI hM (oM_pI hM ?_)
  have hn := hR.1.2
  have loop : ∀ (w i : Nat) (ms : List AR) (S1 : MS), rs.length - i < w → i ≤ rs.length → ms.length = i → RepL S1 ms → mfr [42, 43] [17, 18, 19, 20] S S1 → S1.1 43 = 0 → (rs.drop i).foldl (fun ms r => insA r ms) ms = srtA rs → okM m g (X9_takesLive_b12 w m (nI i)) S1 (fun v S2 => okM m g (k v) S2 Q) := by
    intro w
    induction w with
    | zero => intro i ms S1 h; omega
    | succ w ih =>
      intro i ms S1 hw hi hl L1 f1 e43 ef
      show okM m g (X9_takesLive_b12b (X9_takesLive_b12 w) m (nI i)) S1 _
      unfold X9_takesLive_b12b
      have R1 : RepR S1 rs := repR_fr hR f1 (by decide) (fun q h1 h2 => by simp only [List.mem_cons, List.not_mem_nil, or_false]; omega)
      refine oM_gI hM ?_
      rw [R1.1.1]
      by_cases c : i < rs.length
      · obtain ⟨r, hr⟩ := some_of_lt c
        rw [drop_cons hr, List.foldl_cons] at ef
        refine oM_itF (nI_ge c (by omega)) (oM_gI hM ?_)
        rw [L1.1.1]
        refine tk_b25 hM L1 R1 hr (by omega) (fun S' L' f' => ?_)
        refine ih (i + 1) (insA r ms) S' (by omega) (by omega) (by rw [insA_len]; omega) L' (mfr_tr f1 (mfr_mono f' (by decide) (fun _ h => h))) ?_ ef
        rw [f'.1 43 (by decide)]
        exact e43
      · rw [List.drop_eq_nil_of_le (by omega)] at ef
        have ef : ms = srtA rs := ef
        refine oM_itT (nI_le (by omega) (by omega)) (oM_pu (h S1 ?_ e43 f1))
        rw [← ef]
        exact L1
  have : FU = 1000000 := rfl
  refine loop FU 0 [] _ (by omega) (Nat.zero_le _) rfl ⟨⟨rfl, by decide⟩, hL, fun i r hr => by cases hr⟩ (mfr_tr (mfr_I (by decide)) (mfr_I (by decide))) rfl ?_
  rw [List.drop_zero]
  rfl
/-- what a merge needs -/
def nedS (fm : Int32) : List AR → Int32 → Int32 → Int32 → Int32
  | [], al, _, hi => al + hi
  | r :: l, al, fl, hi => match decide (0 < hi ∧ fm < fl + rcb r) with
    | true => nedS fm l ((al + hi) + rcb r) (0 + rcb r) (8 + (14 + nI r.1.length))
    | false => nedS fm l (al + rcb r) (fl + rcb r) ((if hi = 0 then 8 else hi) + (14 + nI r.1.length))
theorem m_needed {k : Int32 → M α} {Q : α → MS → Prop} (hM : Mk m g) (hL : RepL S ms) (hR : RepR S rs) (hms : ∀ r, r ∈ ms → rs[plR r.1 rs]? = some r) (h : okM m g (k (nedS (S.1 2) ms (8 + 4 * S.1 45) 0 0)) S Q) : okM m g (bd (X9_needed m) k) S Q := by
  refine oM_bd ?_
  unfold X9_needed
  refine oM_gI hM (oM_bpu ?_)
  have hn := hL.1.2
  have loop : ∀ (w i : Nat) (al fl hi : Int32), ms.length - i < w → i ≤ ms.length → okM m g (k (nedS (S.1 2) (ms.drop i) al fl hi)) S Q → okM m g (X9_needed_b17 w m al fl hi (nI i)) S (fun v S1 => okM m g (k v) S1 Q) := by
    intro w
    induction w with
    | zero => intro i al fl hi h; omega
    | succ w ih =>
      intro i al fl hi hw hi1 hq
      show okM m g (X9_needed_b17b (X9_needed_b17 w) m al fl hi (nI i)) S _
      unfold X9_needed_b17b
      refine oM_gI hM ?_
      rw [hL.1.1]
      by_cases c : i < ms.length
      · obtain ⟨r, hr⟩ := some_of_lt c
        have hr2 := hms r (List.mem_of_getElem? hr)
        obtain ⟨b1, b2, b3, b4, b5⟩ := hL.2.2 i r hr
        rw [drop_cons hr] at hq
        unfold nedS at hq
        refine oM_itF (nI_ge c (by omega)) (oM_ck hM (m_entryOf hM hR hL hr rfl (oM_ck hM (m_recordBytes hM hR hr2 rfl ?_))))
        have tl : ∀ al fl hi : Int32, okM m g (k (nedS (S.1 2) (ms.drop (i + 1)) (al + rcb r) (fl + rcb r) ((if hi = 0 then 8 else hi) + (14 + nI r.1.length)))) S Q → okM m g (X9_needed_b61 (X9_needed_b17 w) m al fl hi (nI i) (rcb r)) S (fun v S1 => okM m g (k v) S1 Q) := by
          intro al fl hi hq2
          unfold X9_needed_b61 X9_needed_b68
          by_cases d : hi = 0
          · rw [if_pos d] at hq2
            refine oM_itF (fun q => q d) (oM_gR hM (oM_al (q := 18) hM rfl b3 (oM_bpu (oM_bpu (oM_bpu ?_)))))
            rw [nI_1]
            exact ih (i + 1) _ _ _ (by omega) (by omega) hq2
          · rw [if_neg d] at hq2
            refine oM_itT d (oM_gR hM (oM_al (q := 18) hM rfl b3 (oM_bpu (oM_bpu (oM_bpu ?_)))))
            rw [nI_1]
            exact ih (i + 1) _ _ _ (by omega) (by omega) hq2
        by_cases d1 : hi ≤ 0
        · rw [decide_eq_false (fun q => absurd d1 (Int32.not_le.mpr q.1))] at hq
          exact oM_itT d1 (tl _ _ _ hq)
        · refine oM_itF d1 (oM_gI hM ?_)
          by_cases d2 : fl + rcb r ≤ S.1 2
          · rw [decide_eq_false (fun q => absurd d2 (Int32.not_le.mpr q.2))] at hq
            exact oM_itT d2 (tl _ _ _ hq)
          · rw [decide_eq_true ⟨Int32.not_le.mp d1, Int32.not_le.mp d2⟩] at hq
            exact oM_itF d2 (oM_bpu (tl _ _ _ hq))
      · rw [List.drop_eq_nil_of_le (by omega)] at hq
        exact oM_itT (nI_le (by omega) (by omega)) (oM_pu hq)
  have : FU = 1000000 := rfl
  exact loop FU 0 _ 0 0 (by omega) (Nat.zero_le _) (by rw [List.drop_zero]; exact h)
end
