/-! the reference: a row is moved, told, untold -/
def rowB (A : List Int32) (a : Nat) : List Int32 := (A.drop (16 * a)).take 16
/-- the six rows of the directory, of new contents -/
def up6 (S : MS) (F : List Int32 → List Int32) (G : List Int32 → List Int32) : MS := (S.1, fun q => if q = 11 then F (S.2 11) else if 12 ≤ q ∧ q ≤ 16 then G (S.2 q) else S.2 q)
def mvS (S : MS) (a b : Nat) : MS := up6 S (fun A => wrt A (16 * b) (rowB A a)) (fun A => A.set b (A.getD a 0))
theorem up6_up6 {S : MS} {F G F' G' : List Int32 → List Int32} : up6 (up6 S F G) F' G' = up6 S (fun A => F' (F A)) (fun A => G' (G A)) := by
  unfold up6
  dsimp only
  congr 1
  funext q
  by_cases c : q = 11
  · subst c
    rfl
  · rw [if_neg c, if_neg c]
    by_cases c2 : 12 ≤ q ∧ q ≤ 16
    · rw [if_pos c2, if_pos c2, if_neg c, if_pos c2]
    · rw [if_neg c2, if_neg c2, if_neg c, if_neg c2]
theorem up6_eq {S : MS} {F G F' G' : List Int32 → List Int32} (h1 : F (S.2 11) = F' (S.2 11)) (h2 : ∀ q, 12 ≤ q → q ≤ 16 → G (S.2 q) = G' (S.2 q)) : up6 S F G = up6 S F' G' := by
  unfold up6
  congr 1
  funext q
  by_cases c : q = 11
  · rw [if_pos c, if_pos c, h1]
  · rw [if_neg c, if_neg c]
    by_cases c2 : 12 ≤ q ∧ q ≤ 16
    · rw [if_pos c2, if_pos c2, h2 q c2.1 c2.2]
    · rw [if_neg c2, if_neg c2]
theorem up6_id {S : MS} {F G : List Int32 → List Int32} (h1 : F (S.2 11) = S.2 11) (h2 : ∀ q, 12 ≤ q → q ≤ 16 → G (S.2 q) = S.2 q) : up6 S F G = S := by
  have e : (fun q => if q = 11 then F (S.2 11) else if 12 ≤ q ∧ q ≤ 16 then G (S.2 q) else S.2 q) = S.2 := by
    funext q
    by_cases c : q = 11
    · rw [if_pos c, h1, c]
    · rw [if_neg c]
      by_cases c2 : 12 ≤ q ∧ q ≤ 16
      · rw [if_pos c2, h2 q c2.1 c2.2]
      · rw [if_neg c2]
  unfold up6
  rw [e]
theorem up6_11 {S : MS} {F G : List Int32 → List Int32} : (up6 S F G).2 11 = F (S.2 11) := rfl
theorem up6_q {S : MS} {F G : List Int32 → List Int32} {q : Nat} (h1 : 12 ≤ q) (h2 : q ≤ 16) : (up6 S F G).2 q = G (S.2 q) := by
  show (if q = 11 then F (S.2 11) else if 12 ≤ q ∧ q ≤ 16 then G (S.2 q) else S.2 q) = _
  rw [if_neg (by omega), if_pos ⟨h1, h2⟩]
theorem up6_o {S : MS} {F G : List Int32 → List Int32} {q : Nat} (h : q < 11 ∨ 16 < q) : (up6 S F G).2 q = S.2 q := by
  show (if q = 11 then F (S.2 11) else if 12 ≤ q ∧ q ≤ 16 then G (S.2 q) else S.2 q) = _
  rw [if_neg (by omega), if_neg (by omega)]
theorem mfr_up6 {J : List Nat} {S : MS} {F G : List Int32 → List Int32} : mfr J [11, 12, 13, 14, 15, 16] S (up6 S F G) := by
  refine ⟨fun _ _ => rfl, fun q hq => up6_o ?_⟩
  simp only [List.mem_cons, List.not_mem_nil, or_false, not_or] at hq
  omega
theorem rowB_len {A : List Int32} {a : Nat} (h : 16 * a + 16 ≤ A.length) : (rowB A a).length = 16 := by
  unfold rowB
  rw [List.length_take, List.length_drop]
  omega
theorem nrm_rowB {A : List Int32} {a : Nat} (h : nrm A) : nrm (rowB A a) := fun v hv => h v (List.mem_of_mem_drop (List.mem_of_mem_take hv))
theorem getD_some {A : List Int32} {a : Nat} (h : a < A.length) : A[a]? = some (A.getD a 0) := by
  rw [List.getD_eq_getElem?_getD, List.getElem?_eq_getElem h]
  rfl
/-- five sets, one after the other -/
theorem up5 {S : MS} {A : List Int32} {G : List Int32 → List Int32} : upA (upA (upA (upA (upA (upA S 11 A) 12 (G (S.2 12))) 13 (G (S.2 13))) 14 (G (S.2 14))) 15 (G (S.2 15))) 16 (G (S.2 16)) = up6 S (fun _ => A) G := by
  unfold upA up6
  congr 1
  funext q
  dsimp only
  unfold va_up
  by_cases c11 : q = 11
  · subst c11
    rfl
  by_cases c12 : q = 12
  · subst c12
    rfl
  by_cases c13 : q = 13
  · subst c13
    rfl
  by_cases c14 : q = 14
  · subst c14
    rfl
  by_cases c15 : q = 15
  · subst c15
    rfl
  by_cases c16 : q = 16
  · subst c16
    rfl
  simp only [if_neg c11, if_neg c12, if_neg c13, if_neg c14, if_neg c15, if_neg c16]
  rw [if_neg (by omega)]
section
variable {m : Nat} {g : Gh} {S : MS} {α : Type} {rs : List AR}
theorem m_moves {a b : Nat} {x y : Int32} {k : Unit → M α} {Q : α → MS → Prop} (hM : Mk m g) (hL : dLen S) (hx : x = nI a) (hy : y = nI b) (ha : a < 1200) (hb : b < 1200) (hne : a ≠ b) (h : okM m g (k ()) (mvS S a b) Q) : okM m g (bd (X9_moves m x y) k) S Q := by
  subst hx hy
  refine oM_bd ?_
  obtain ⟨l11, lq, hn⟩ := hL
  have lB := rowB_len (A := S.2 11) (a := a) (by omega)
  have loop : ∀ (w t : Nat), 16 - t < w → t ≤ 16 → okM m g (X9_moves_b2 w m (nI a) (nI b) (nI t)) (upA S 11 (wrt (S.2 11) (16 * b) ((rowB (S.2 11) a).take t))) (fun v S1 => okM m g (k v) S1 Q) := by
    intro w
    induction w with
    | zero => intro t h; omega
    | succ w ih =>
      intro t hw ht
      show okM m g (X9_moves_b2b (X9_moves_b2 w) m (nI a) (nI b) (nI t)) _ _
      unfold X9_moves_b2b
      have lt : ((rowB (S.2 11) a).take t).length = t := by rw [List.length_take]; omega
      have lw := wrt_len (A := S.2 11) (e := 16 * b) (l := (rowB (S.2 11) a).take t) (by omega)
      by_cases c : t < 16
      · obtain ⟨v, hv⟩ := some_of_lt (show t < (rowB (S.2 11) a).length by omega)
        have hv2 : (S.2 11)[16 * a + t]? = some v := by
          unfold rowB at hv
          rw [dt_get c] at hv
          exact hv
        have g11 : ((upA S 11 (wrt (S.2 11) (16 * b) ((rowB (S.2 11) a).take t))).2 11)[16 * a + t]? = some v := by
          show (wrt (S.2 11) (16 * b) ((rowB (S.2 11) a).take t))[16 * a + t]? = some v
          rw [wrt_get (by omega), lt]
          by_cases d1 : 16 * a + t < 16 * b
          · rw [if_pos d1, hv2]
          · rw [if_neg d1, if_neg (by omega), hv2]
        have ia : 16 * nI a + nI t = nI (16 * a + t) := by rw [nI_16, nI_add]
        have ib : 16 * nI b + nI t = nI (16 * b + t) := by rw [nI_16, nI_add]
        have hle : ¬ (16 : Int32) ≤ nI t := nI_ge (b := 16) c (by decide)
        refine oM_itF hle (oM_gR hM (oM_gR hM (oM_al (q := 11) hM ia g11 (oM_as (q := 11) (i := 16 * b + t) hM ib ?_ ?_))))
        · show 16 * b + t < (wrt (S.2 11) (16 * b) ((rowB (S.2 11) a).take t)).length
          omega
        · rw [nI_1, if_pos rfl]
          have e1 : v.toInt8.toInt32 = v := nrm_get hn hv2
          rw [e1]
          have e : upA (upA S 11 (wrt (S.2 11) (16 * b) ((rowB (S.2 11) a).take t))) 11 (((upA S 11 (wrt (S.2 11) (16 * b) ((rowB (S.2 11) a).take t))).2 11).set (16 * b + t) v) = upA S 11 (wrt (S.2 11) (16 * b) ((rowB (S.2 11) a).take (t + 1))) := by
            show (S.1, va_up (va_up S.2 11 _) 11 ((wrt (S.2 11) (16 * b) ((rowB (S.2 11) a).take t)).set (16 * b + t) v)) = _
            rw [va_va, wrt_step hv (by omega)]
            rfl
          rw [e]
          exact ih (t + 1) (by omega) (by omega)
      · have et : t = 16 := by omega
        subst et
        rw [show (rowB (S.2 11) a).take 16 = rowB (S.2 11) a from List.take_of_length_le (by omega)]
        have G : ∀ q, 12 ≤ q → q ≤ 16 → (S.2 q)[a]? = some ((S.2 q).getD a 0) ∧ b < (S.2 q).length := by
          intro q h1 h2
          have := lq q h1 h2
          exact ⟨getD_some (by omega), by omega⟩
        obtain ⟨a12, b12⟩ := G 12 (by decide) (by decide)
        obtain ⟨a13, b13⟩ := G 13 (by decide) (by decide)
        obtain ⟨a14, b14⟩ := G 14 (by decide) (by decide)
        obtain ⟨a15, b15⟩ := G 15 (by decide) (by decide)
        obtain ⟨a16, b16⟩ := G 16 (by decide) (by decide)
        refine oM_itT (nI_le (a := 16) (b := 16) (by omega) (by decide)) (oM_gR hM (oM_gR hM (oM_al (q := 12) hM rfl a12 (oM_as (q := 12) hM rfl b12 ?_))))
        refine oM_gR hM (oM_gR hM (oM_al (q := 13) hM rfl a13 (oM_as (q := 13) hM rfl b13 ?_)))
        refine oM_gR hM (oM_gR hM (oM_al (q := 14) hM rfl a14 (oM_as (q := 14) hM rfl b14 ?_)))
        refine oM_gR hM (oM_gR hM (oM_al (q := 15) hM rfl a15 (oM_as (q := 15) hM rfl b15 ?_)))
        refine oM_gR hM (oM_gR hM (oM_al (q := 16) hM rfl a16 (oM_as (q := 16) hM rfl b16 (oM_pu ?_))))
        have e := up5 (S := S) (A := wrt (S.2 11) (16 * b) (rowB (S.2 11) a)) (G := fun A => A.set b (A.getD a 0))
        have e2 : okM m g (k ()) (upA (upA (upA (upA (upA (upA S 11 (wrt (S.2 11) (16 * b) (rowB (S.2 11) a))) 12 ((S.2 12).set b ((S.2 12).getD a 0))) 13 ((S.2 13).set b ((S.2 13).getD a 0))) 14 ((S.2 14).set b ((S.2 14).getD a 0))) 15 ((S.2 15).set b ((S.2 15).getD a 0))) 16 ((S.2 16).set b ((S.2 16).getD a 0))) Q := by
          rw [e]
          exact h
        exact e2
  have : FU = 1000000 := rfl
  have q := loop FU 0 (by omega) (Nat.zero_le _)
  rw [List.take_zero, wrt_nil] at q
  have e0 : upA S 11 (S.2 11) = S := by
    show (S.1, va_up S.2 11 (S.2 11)) = S
    have : va_up S.2 11 (S.2 11) = S.2 := by
      funext j
      unfold va_up
      split
      · rename_i q
        rw [q]
      · rfl
    rw [this]
  rw [e0] at q
  exact q
end
