/-! the reference: its ints by field, its rows by number; all else of the heap stays -/
abbrev MS : Type := (Nat → Int32) × (Nat → List Int32)
def mset (g : Gh) (m : Nat) (S : MS) : Gh := (qn g, qs g, qk g, (fun j a => if a = m ∧ j / 100 = 12 then S.1 (j % 100) else qi g j a), qr g, qB g, qC g, qL g, qE g, (fun a => if m < a ∧ a ≤ m + 26 then S.2 (a - m) else qA g a), qW g)
def knd (q : Nat) : Nat := if q = 1 ∨ q = 8 ∨ q = 9 ∨ q = 10 ∨ q = 11 ∨ q = 17 ∨ q = 22 then 21 else 22
def upI (S : MS) (j : Nat) (v : Int32) : MS := (va_up S.1 j v, S.2)
def upA (S : MS) (q : Nat) (l : List Int32) : MS := (S.1, va_up S.2 q l)
def adK (k : Nat) : Nat := ([(3, 1), (5, 2), (6, 3), (7, 4), (9, 5), (10, 6), (11, 7), (13, 8), (15, 9), (17, 10), (27, 11), (28, 12), (29, 13), (30, 14), (31, 15), (32, 16), (38, 17), (39, 18), (40, 19), (41, 20), (44, 21), (48, 22), (49, 23), (50, 24), (51, 25), (52, 26)] : List (Nat × Nat)).foldr (fun p r => if p.1 = k then p.2 else r) 0
def Mk (m : Nat) (g : Gh) : Prop := 0 < m ∧ qk g m = 13 ∧ (∀ q, 1 ≤ q → q ≤ 26 → qk g (m + q) = knd q) ∧ ∀ k, adK k ≠ 0 → qr g (100 * 12 + k) m = m + adK k
def okM {α : Type} (m : Nat) (g : Gh) (x : M α) (S : MS) (Q : α → MS → Prop) : Prop := ok x (mset g m S) (fun v g' => ∃ S', g' = mset g m S' ∧ Q v S')
section
variable {m : Nat} {g : Gh} {S : MS} {α β : Type} {Q : α → MS → Prop}
theorem oM_pu {v : α} (h : Q v S) : okM m g (pu v) S Q := ok_pu ⟨S, rfl, h⟩
theorem oM_bd {x : M β} {k : β → M α} (h : okM m g x S (fun v S1 => okM m g (k v) S1 Q)) : okM m g (bd x k) S Q := ok_bd (ok_mono h (fun v g1 q => by
  obtain ⟨S1, e, q⟩ := q
  rw [e]
  exact q))
theorem oM_bpu {v : β} {k : β → M α} (h : okM m g (k v) S Q) : okM m g (bd (pu v) k) S Q := ok_bpu h
theorem oM_itT {c : Prop} [Decidable c] {x y : M α} (hc : c) (h : okM m g x S Q) : okM m g (it c x y) S Q := ok_itT hc h
theorem oM_itF {c : Prop} [Decidable c] {x y : M α} (hc : ¬ c) (h : okM m g y S Q) : okM m g (it c x y) S Q := ok_itF hc h
theorem oM_it {c : Prop} [Decidable c] {x y : M α} (h1 : c → okM m g x S Q) (h2 : ¬ c → okM m g y S Q) : okM m g (it c x y) S Q := ok_it h1 h2
theorem oM_mono {x : M α} {P : α → MS → Prop} (h : okM m g x S P) (hm : ∀ v S1, P v S1 → Q v S1) : okM m g x S Q := ok_mono h (fun v g1 q => by
  obtain ⟨S1, e, q⟩ := q
  exact ⟨S1, e, hm v S1 q⟩)
theorem oM_tail {x : M α} (h : okM m g (bd x pu) S Q) : okM m g x S Q := ok_tail h
theorem mset_i {j : Nat} (hj : j < 100) : qi (mset g m S) (100 * 12 + j) m = S.1 j := by
  show (if m = m ∧ (100 * 12 + j) / 100 = 12 then S.1 ((100 * 12 + j) % 100) else _) = _
  rw [if_pos ⟨rfl, by omega⟩, show (100 * 12 + j) % 100 = j by omega]
theorem mset_A {q : Nat} (h1 : 1 ≤ q) (h2 : q ≤ 26) : qA (mset g m S) (m + q) = S.2 q := by
  show (if m < m + q ∧ m + q ≤ m + 26 then S.2 (m + q - m) else _) = _
  rw [if_pos ⟨by omega, by omega⟩, show m + q - m = q by omega]
theorem mset_wI {j : Nat} {v : Int32} (hj : j < 100) : wI (mset g m S) (100 * 12 + j) m v = mset g m (upI S j v) := by
  have e : u2 (fun i a => if a = m ∧ i / 100 = 12 then S.1 (i % 100) else qi g i a) (100 * 12 + j) m v = (fun i a => if a = m ∧ i / 100 = 12 then va_up S.1 j v (i % 100) else qi g i a) := by
    funext i a
    unfold u2 va_up
    dsimp only
    by_cases c : a = m ∧ i / 100 = 12
    · rw [if_pos c, if_pos c]
      by_cases c2 : i % 100 = j
      · rw [if_pos c2, if_pos ⟨by omega, c.1⟩]
      · rw [if_neg c2, if_neg (fun q => c2 (by omega))]
    · rw [if_neg c, if_neg c, if_neg (fun q => c ⟨q.2, by omega⟩)]
  exact congrArg (fun f => (qn g, qs g, qk g, f, qr g, qB g, qC g, qL g, qE g, (fun a => if m < a ∧ a ≤ m + 26 then S.2 (a - m) else qA g a), qW g)) e
theorem mset_wA {q : Nat} {l : List Int32} (h1 : 1 ≤ q) (h2 : q ≤ 26) : wA (mset g m S) (m + q) l = mset g m (upA S q l) := by
  have e : va_up (fun a => if m < a ∧ a ≤ m + 26 then S.2 (a - m) else qA g a) (m + q) l = (fun a => if m < a ∧ a ≤ m + 26 then va_up S.2 q l (a - m) else qA g a) := by
    funext a
    unfold va_up
    dsimp only
    by_cases c : a = m + q
    · rw [if_pos c, if_pos ⟨by omega, by omega⟩, if_pos (by omega)]
    · rw [if_neg c]
      by_cases c2 : m < a ∧ a ≤ m + 26
      · rw [if_pos c2, if_pos c2, if_neg (by omega)]
      · rw [if_neg c2, if_neg c2]
  exact congrArg (fun f => (qn g, qs g, qk g, (fun j a => if a = m ∧ j / 100 = 12 then S.1 (j % 100) else qi g j a), qr g, qB g, qC g, qL g, qE g, f, qW g)) e
theorem oM_ck {k : Unit → M α} (hM : Mk m g) (h : okM m g (k ()) S Q) : okM m g (bd (ck 12 m) k) S Q := ok_ck hM.2.1 h
theorem oM_gI {j : Nat} {k : Int32 → M α} (hM : Mk m g) (h : okM m g (k (S.1 j)) S Q) (hj : j < 100 := by decide) (hg : gIk 12 j = true := by rfl) : okM m g (bd (gI 12 j m) k) S Q := ok_gI hM.2.1 (mset_i hj) h hg
theorem oM_pI {j : Nat} {v : Int32} {k : Unit → M α} (hM : Mk m g) (h : okM m g (k ()) (upI S j v) Q) (hj : j < 100 := by decide) (hg : gIk 12 j = true := by rfl) : okM m g (bd (pV 12 j m (.int v)) k) S Q := ok_pI hM.2.1 (by rw [mset_wI hj]; exact h) hg
theorem oM_pZ {j : Nat} {v : Int32} {k : Unit → M α} (hM : Mk m g) (hv : v = 0 ∨ v = 1) (h : okM m g (k ()) (upI S j v) Q) (hj : j < 100 := by decide) (hg : gIk 12 j = true := by rfl) : okM m g (bd (pZ 12 j m v) k) S Q := ok_pZ hM.2.1 hv (by rw [mset_wI hj]; exact h) hg
theorem oM_gR {j : Nat} {k : Nat → M α} (hM : Mk m g) (h : okM m g (k (m + adK j)) S Q) (hj : adK j ≠ 0 := by decide) (hg : gRk 12 j = true := by rfl) : okM m g (bd (gR 12 j m) k) S Q := ok_gR hM.2.1 (hM.2.2.2 j hj) (by have := hM.1; omega) h hg
theorem oM_al {kk q i : Nat} {x v : Int32} {k : Int32 → M α} (hM : Mk m g) (hi : x = nI i) (hv : (S.2 q)[i]? = some v) (h : okM m g (k v) S Q) (h1 : 1 ≤ q := by decide) (h2 : q ≤ 26 := by decide) (hk : knd q = kk := by rfl) (hkk : kk = 21 ∨ kk = 22 := by decide) : okM m g (bd (al kk (m + q) x) k) S Q := ok_al hkk ((hM.2.2.1 q h1 h2).trans hk) hi (by rw [mset_A h1 h2]; exact hv) h
theorem oM_as {kk q i : Nat} {x v : Int32} {k : Unit → M α} (hM : Mk m g) (hi : x = nI i) (hl : i < (S.2 q).length) (h : okM m g (k ()) (upA S q ((S.2 q).set i (if kk = 21 then v.toInt8.toInt32 else v))) Q) (h1 : 1 ≤ q := by decide) (h2 : q ≤ 26 := by decide) (hk : knd q = kk := by rfl) (hkk : kk = 21 ∨ kk = 22 := by decide) : okM m g (bd (as kk (m + q) x v) k) S Q := ok_as hkk ((hM.2.2.1 q h1 h2).trans hk) hi (by rw [mset_A h1 h2]; exact hl) (by rw [mset_A h1 h2, mset_wA h1 h2]; exact h)
end
