/-! what a call leaves as it was: all but the addresses of P -/
def fra (P : Nat → Prop) (g g' : Gh) : Prop := qn g ≤ qn g' ∧ (∀ a, a < qn g → qk g' a = qk g a) ∧ (∀ a, a < qn g → ∀ j, j ≠ 300 → j ≠ 700 → j ≠ 1000 → qr g' j a = qr g j a) ∧ ∀ a, a < qn g → ¬ P a → (∀ j, qi g' j a = qi g j a) ∧ (∀ j, qr g' j a = qr g j a) ∧ (qB g' a = qB g a ∧ qC g' a = qC g a) ∧ (qL g' a = qL g a ∧ qE g' a = qE g a) ∧ qA g' a = qA g a ∧ qW g' a = qW g a
theorem fra_refl {P : Nat → Prop} {g : Gh} : fra P g g := ⟨Nat.le_refl _, fun _ _ => rfl, fun _ _ _ _ _ _ => rfl, fun _ _ _ => ⟨fun _ => rfl, fun _ => rfl, ⟨rfl, rfl⟩, ⟨rfl, rfl⟩, rfl, rfl⟩⟩
theorem fra_mono {P P' : Nat → Prop} {g g' : Gh} (h : fra P g g') (hp : ∀ a, a < qn g → P a → P' a) : fra P' g g' := ⟨h.1, h.2.1, h.2.2.1, fun a ha hn => h.2.2.2 a ha (fun q => hn (hp a ha q))⟩
theorem fra_trans {P P' : Nat → Prop} {g g1 g2 : Gh} (h : fra P g g1) (h2 : fra P' g1 g2) (hp : ∀ a, a < qn g → P' a → P a) : fra P g g2 := by
  obtain ⟨a1, a2, a3, a4⟩ := h
  obtain ⟨b1, b2, b3, b4⟩ := h2
  refine ⟨Nat.le_trans a1 b1, fun a ha => (b2 a (by omega)).trans (a2 a ha), fun a ha j h1 h2 h3 => (b3 a (by omega) j h1 h2 h3).trans (a3 a ha j h1 h2 h3), fun a ha hn => ?_⟩
  obtain ⟨c1, c2, ⟨c3, c4⟩, ⟨c5, c6⟩, c7, c8⟩ := a4 a ha hn
  obtain ⟨d1, d2, ⟨d3, d4⟩, ⟨d5, d6⟩, d7, d8⟩ := b4 a (by omega) (fun q => hn (hp a ha q))
  exact ⟨fun j => (d1 j).trans (c1 j), fun j => (d2 j).trans (c2 j), ⟨d3.trans c3, d4.trans c4⟩, ⟨d5.trans c5, d6.trans c6⟩, d7.trans c7, d8.trans c8⟩
section
variable {P : Nat → Prop} {g : Gh} {a b j : Nat}
theorem fra_wI {v : Int32} (h : P a) : fra P g (wI g j a v) := ⟨Nat.le_refl _, fun _ _ => rfl, fun _ _ _ _ _ _ => rfl, fun b hb hn => ⟨fun j => u2_ne (fun q => hn (q.2 ▸ h)), fun _ => rfl, ⟨rfl, rfl⟩, ⟨rfl, rfl⟩, rfl, rfl⟩⟩
theorem fra_wR (h : P a) (hj : j = 300 ∨ j = 700 ∨ j = 1000) : fra P g (wR g j a b) := ⟨Nat.le_refl _, fun _ _ => rfl, fun _ _ _ h1 h2 h3 => u2_ne (fun q => by omega), fun b hb hn => ⟨fun j => rfl, fun _ => u2_ne (fun q => hn (q.2 ▸ h)), ⟨rfl, rfl⟩, ⟨rfl, rfl⟩, rfl, rfl⟩⟩
theorem fra_wX {l : List Int32} (h : P a) : fra P g (wX g a l) := ⟨Nat.le_refl _, fun _ _ => rfl, fun _ _ _ _ _ _ => rfl, fun b hb hn => ⟨fun j => rfl, fun _ => rfl, ⟨vu_ne (fun q => hn (q ▸ h)), rfl⟩, ⟨rfl, rfl⟩, rfl, rfl⟩⟩
theorem fra_wB {l : List Int32} (h : P a) : fra P g (wB g a l) := ⟨Nat.le_add_right _ _, fun _ _ => rfl, fun _ _ _ _ _ _ => rfl, fun b hb hn => ⟨fun j => rfl, fun _ => rfl, ⟨vu_ne (fun q => hn (q ▸ h)), vu_ne (fun q => hn (q ▸ h))⟩, ⟨rfl, rfl⟩, rfl, rfl⟩⟩
theorem fra_wL {l : List Nat} (h : P a) : fra P g (wL g a l) := ⟨Nat.le_add_right _ _, fun _ _ => rfl, fun _ _ _ _ _ _ => rfl, fun b hb hn => ⟨fun j => rfl, fun _ => rfl, ⟨rfl, rfl⟩, ⟨vu_ne (fun q => hn (q ▸ h)), vu_ne (fun q => hn (q ▸ h))⟩, rfl, rfl⟩⟩
theorem fra_wl {l : List Nat} (h : P a) : fra P g (wl g a l) := ⟨Nat.le_refl _, fun _ _ => rfl, fun _ _ _ _ _ _ => rfl, fun b hb hn => ⟨fun j => rfl, fun _ => rfl, ⟨rfl, rfl⟩, ⟨vu_ne (fun q => hn (q ▸ h)), rfl⟩, rfl, rfl⟩⟩
theorem fra_wA {l : List Int32} (h : P a) : fra P g (wA g a l) := ⟨Nat.le_refl _, fun _ _ => rfl, fun _ _ _ _ _ _ => rfl, fun b hb hn => ⟨fun j => rfl, fun _ => rfl, ⟨rfl, rfl⟩, ⟨rfl, rfl⟩, vu_ne (fun q => hn (q ▸ h)), rfl⟩⟩
theorem fra_wW {l : List Int64} (h : P a) : fra P g (wW g a l) := ⟨Nat.le_refl _, fun _ _ => rfl, fun _ _ _ _ _ _ => rfl, fun b hb hn => ⟨fun j => rfl, fun _ => rfl, ⟨rfl, rfl⟩, ⟨rfl, rfl⟩, rfl, vu_ne (fun q => hn (q ▸ h))⟩⟩
theorem fra_wO {c N : Nat} : fra P g (wO g c N) := ⟨Nat.le_succ _, fun a ha => vu_ne (by omega), fun a ha j _ _ _ => if_neg (by omega), fun b hb hn => ⟨fun j => if_neg (by omega), fun _ => if_neg (by omega), ⟨rfl, rfl⟩, ⟨rfl, rfl⟩, rfl, rfl⟩⟩
theorem fra_wNB : fra P g (wNB g) := ⟨Nat.le_add_right _ 2, fun a ha => vu_ne (by omega), fun a ha j _ _ _ => rfl, fun b hb hn => ⟨fun j => rfl, fun _ => rfl, ⟨vu_ne (by omega), vu_ne (by omega)⟩, ⟨rfl, rfl⟩, rfl, rfl⟩⟩
end
/-- all ints at once -/
def wF (g : Gh) (f : Nat → Nat → Int32) : Gh := (qn g, qs g, qk g, f, qr g, qB g, qC g, qL g, qE g, qA g, qW g)
theorem fra_wF {P : Nat → Prop} {g : Gh} {f : Nat → Nat → Int32} (h : ∀ j a, ¬ P a → f j a = qi g j a) : fra P g (wF g f) := ⟨Nat.le_refl _, fun _ _ => rfl, fun _ _ _ _ _ _ => rfl, fun b hb hn => ⟨fun j => h j b hn, fun _ => rfl, ⟨rfl, rfl⟩, ⟨rfl, rfl⟩, rfl, rfl⟩⟩
theorem fra_k {P : Nat → Prop} {g g' : Gh} (h : fra P g g') (hz : ∀ a, qk g a ≠ 0 → a < qn g) {a k : Nat} (hk : qk g a = k) (h0 : k ≠ 0) : qk g' a = k := (h.2.1 a (hz a (by omega))).trans hk
theorem cs_fra {P : Nat → Prop} {n : Nat} {g g' : Gh} (hC : Cs n g) (h : fra P g g') (hz : ∀ a, qk g a ≠ 0 → a < qn g) : Cs n g' := by
  have hr : ∀ {a k j v : Nat}, qk g a = k → k ≠ 0 → j ≠ 300 → j ≠ 700 → j ≠ 1000 → qr g j a = v → qr g' j a = v := fun hk h0 h1 h2 h3 hv => (h.2.2.1 _ (hz _ (by omega)) _ h1 h2 h3).trans hv
  obtain ⟨h0, ⟨⟨a1, a2, a3, a4, a5⟩, ⟨a6, a7, a8, a9⟩, ⟨a10, a11, a12⟩, a13, a14, a15, a16⟩, ⟨b1, b2, b3, b4⟩, ⟨b5, b6, b7, b8⟩, ⟨b9, b10, b11⟩, ⟨b12, b13⟩, ⟨b14, b15, b16, b17⟩, b18, b19⟩ := hC
  refine ⟨h0, ⟨⟨?_, ?_, ?_, ?_, ?_⟩, ⟨?_, ?_, ?_, ?_⟩, ⟨?_, ?_, ?_⟩, ?_, ?_, ?_, ?_⟩, ⟨?_, ?_, ?_, ?_⟩, ⟨?_, ?_, ?_, ?_⟩, ⟨?_, ?_, ?_⟩, ⟨?_, ?_⟩, ⟨?_, ?_, ?_, ?_⟩, ?_, ?_⟩
  all_goals first
    | (exact fra_k h hz (by assumption) (by decide))
    | (exact hr a1 (by decide) (by decide) (by decide) (by decide) (by assumption))
    | (exact hr a6 (by decide) (by decide) (by decide) (by decide) (by assumption))
    | (exact hr a10 (by decide) (by decide) (by decide) (by decide) (by assumption))
    | (exact hr a13 (by decide) (by decide) (by decide) (by decide) (by assumption))
    | (exact hr a16 (by decide) (by decide) (by decide) (by decide) (by assumption))
/-! the slots and cells, but for the rows of the disk's files -/
def rsum (n : Nat) (g : Gh) : Nat := 2 * (qC g (n + 1) + qC g (n + 3) + qC g (n + 5) + qC g (n + 7) + qC g (n + 17) + qC g (n + 19)) + 23 * ((qL g (n + 14)).length + (qL g (n + 15)).length) + 2 * (qL g (n + 12)).length + 4 * (qE g (n + 10) + qE g (n + 11) + qE g (n + 12) + qE g (n + 14) + qE g (n + 15)) + 22 * ((qL g (n + 10)).length + (qL g (n + 11)).length)
def ccnt (n : Nat) (g : Gh) : Nat := 3 * ((qL g (n + 14)).length + (qL g (n + 15)).length) + (qL g (n + 12)).length + (qE g (n + 10) + qE g (n + 11) + qE g (n + 12) + qE g (n + 14) + qE g (n + 15)) + 3 * ((qL g (n + 10)).length + (qL g (n + 11)).length)
def acc2 (n : Nat) (g g' : Gh) (z : Nat) : Prop := qs g' + rsum n g ≤ qs g + rsum n g' + z ∧ 16 * qn g' + qs g + 16 * ccnt n g ≤ 16 * qn g + qs g' + 16 * ccnt n g'
/-- the rows that are not the disk's files' are not too long -/
def CE (n : Nat) (g : Gh) : Prop := (qC g (n + 1) ≤ 1000 ∧ qC g (n + 3) ≤ 1000 ∧ qC g (n + 5) ≤ 1000 ∧ qC g (n + 7) ≤ 1000) ∧ 2 * qE g (n + 10) ≤ 3 * ((qL g (n + 10)).length + (qL g (n + 11)).length) + 20 ∧ 2 * qE g (n + 11) ≤ 3 * ((qL g (n + 10)).length + (qL g (n + 11)).length) + 20 ∧ 2 * qE g (n + 12) ≤ 3 * (qL g (n + 12)).length + 20 ∧ 2 * qE g (n + 14) ≤ 3 * ((qL g (n + 14)).length + (qL g (n + 15)).length) + 20 ∧ 2 * qE g (n + 15) ≤ 3 * ((qL g (n + 14)).length + (qL g (n + 15)).length) + 20
def acc (n : Nat) (g g' : Gh) (z : Nat) : Prop := acc2 n g g' z ∧ (CE n g → CE n g')
theorem acc_refl {n : Nat} {g : Gh} : acc n g g 0 := ⟨⟨Nat.le_refl _, Nat.le_refl _⟩, fun h => h⟩
theorem acc_trans {n z z' : Nat} {g g1 g2 : Gh} (h : acc n g g1 z) (h2 : acc n g1 g2 z') : acc n g g2 (z + z') := by
  obtain ⟨h, a⟩ := h
  obtain ⟨h2, b⟩ := h2
  refine ⟨?_, fun q => b (a q)⟩
  unfold acc2 at *
  omega
/-- what the disk's own addresses are -/
def ownD (n : Nat) (g : Gh) (a : Nat) : Prop := qk g a = 8 ∨ qk g a = 4 ∨ (qk g a = 5 ∧ qk g (a - 1) = 8) ∨ a = n + 9 ∨ a = n + 10 ∨ a = n + 11 ∨ a = n + 12
theorem ownD_eq {n : Nat} {P : Nat → Prop} {g g' : Gh} (h : fra P g g') : ∀ a, a < qn g → ownD n g' a → ownD n g a := by
  intro a ha
  have h1 := h.2.1 a ha
  have h2 := h.2.1 (a - 1) (by omega)
  unfold ownD
  rw [h1, h2]
  exact id
theorem frD_trans {n : Nat} {g g1 g2 : Gh} (h : fra (ownD n g) g g1) (h2 : fra (ownD n g1) g1 g2) : fra (ownD n g) g g2 := fra_trans h h2 (ownD_eq h)
def ownR (n : Nat) (g : Gh) (a : Nat) : Prop := qk g a = 11 ∨ (qk g a = 5 ∧ qk g (a - 1) = 11) ∨ a = n + 14 ∨ a = n + 15
theorem ownR_eq {n : Nat} {P : Nat → Prop} {g g' : Gh} (h : fra P g g') : ∀ a, a < qn g → ownR n g' a → ownR n g a := by
  intro a ha
  have h1 := h.2.1 a ha
  have h2 := h.2.1 (a - 1) (by omega)
  unfold ownR
  rw [h1, h2]
  exact id
theorem frR_trans {n : Nat} {g g1 g2 : Gh} (h : fra (ownR n g) g g1) (h2 : fra (ownR n g1) g1 g2) : fra (ownR n g) g g2 := fra_trans h h2 (ownR_eq h)
section
variable {n : Nat} {g g' : Gh} {α : Type} {Q : α → Gh → Prop}
theorem ok_nz {x : M α} (hx : (∀ a, qk g a ≠ 0 → a < qn g) → ok x g Q) : ok x g Q := ok_fresh (fun _ _ h => hx h)
/-- the number is taken -/
theorem ok_takeNumber {k : Int32 → M α} (hC : Cs n g) (hx : ok (k (qi g 606 (n + 9))) (wI g 606 (n + 9) (qi g 606 (n + 9) + 1)) Q) : ok (bd (X3_takeNumber (n + 9)) k) g Q := by
  refine ok_bd ?_
  unfold X3_takeNumber
  refine ok_gI (cs_disk hC) rfl (ok_pI (cs_disk hC) (ok_gI (cs_disk hC) (v := qi g 606 (n + 9) + 1) u2_eq (ok_pu ?_)))
  rw [Int32.add_sub_cancel]
  exact hx
/-- the next number: one more than the last file's -/
def nxN (fs : List AF) : Int32 := match fs.getLast? with
  | none => 1
  | some f => f.1 + 1
theorem ok_countNumbers {k : Unit → M α} (hC : Cs n g) (hD : DI n g) (hx : ok (k ()) (wI g 606 (n + 9) (nxN (FV n g))) Q) : ok (bd (X3_countNumbers (n + 9)) k) g Q := by
  refine ok_len hC (fun hl => ok_bd ?_)
  unfold X3_countNumbers
  refine ok_fsz hC (ok_ck (cs_disk hC) (ok_at hC hD ?_))
  unfold X3_countNumbers_b29
  have e : nxN (FV n g) = match (qL g (n + 10)).getLast? with
    | none => 1
    | some d => qi g 701 d + 1 := by
    unfold nxN FV
    rw [List.getLast?_map]
    cases (qL g (n + 10)).getLast? <;> rfl
  rw [e] at hx
  rw [List.getLast?_eq_getElem?] at hx
  by_cases h0 : (qL g (n + 10)).length = 0
  · have h1 : qL g (n + 10) = [] := List.length_eq_zero_iff.mp h0
    rw [h1] at hx ⊢
    exact ok_pI (cs_disk hC) (ok_pu hx)
  · have h2 : nI (qL g (n + 10)).length - 1 = nI ((qL g (n + 10)).length - 1) := by
      have := nI_1 ((qL g (n + 10)).length - 1)
      rw [show (qL g (n + 10)).length - 1 + 1 = (qL g (n + 10)).length by omega] at this
      rw [← this, Int32.add_sub_cancel]
    rw [h2, oat_nI (by omega)]
    obtain ⟨d, hd⟩ := some_of_lt (show (qL g (n + 10)).length - 1 < (qL g (n + 10)).length by omega)
    rw [hd] at hx ⊢
    exact ok_gI (di_at hD hd).1 rfl (ok_pI (cs_disk hC) (ok_pu hx))
/-- all is synced -/
def stF (n : Nat) (g : Gh) (i : Nat) (j a : Nat) : Int32 := if j = 703 ∧ a ∈ (qL g (n + 10)).take i then 0 else qi g j a
theorem settle_loop {k : Unit → M α} (hC : Cs n g) (hD : DI n g) (hl : (qL g (n + 10)).length ≤ 60000) {Q : Unit → Gh → Prop} (hq : Q () (wI (wF g (stF n g (qL g (n + 10)).length)) 603 (n + 9) 0)) : ∀ (m i : Nat), (qL g (n + 10)).length - i < m → i ≤ (qL g (n + 10)).length → ok (X3_settle_b2 m (n + 9) (nI i)) (wF g (stF n g i)) Q := by
  intro m
  induction m with
  | zero => intro i h; omega
  | succ m ih =>
    intro i hm hi
    show ok (X3_settle_b2b (X3_settle_b2 m) (n + 9) (nI i)) _ Q
    unfold X3_settle_b2b
    have hC2 : Cs n (wF g (stF n g i)) := hC
    have hD2 : DI n (wF g (stF n g i)) := hD
    refine ok_fsz hC2 ?_
    by_cases e : i < (qL g (n + 10)).length
    · obtain ⟨d, hd⟩ := some_of_lt e
      refine ok_itF (nI_ge e (show (qL g (n + 10)).length < 2 ^ 31 by omega)) (ok_fget hC2 hD2 rfl hd (fun hk => ok_pI hk.1 ?_))
      rw [nI_1]
      have e9 : wI (wF g (stF n g i)) (100 * 7 + 3) d 0 = wF g (stF n g (i + 1)) := by
        show wF g (u2 (stF n g i) 703 d 0) = _
        refine congrArg (wF g) ?_
        funext j a
        unfold u2 stF
        rw [List.take_add_one, hd]
        simp only [Option.toList_some, List.mem_append, List.mem_singleton]
        by_cases c1 : j = 703
        · by_cases c2 : a = d
          · rw [if_pos ⟨c1, c2⟩, if_pos ⟨c1, Or.inr c2⟩]
          · rw [if_neg (fun q => c2 q.2)]
            by_cases c3 : a ∈ (qL g (n + 10)).take i
            · rw [if_pos ⟨c1, c3⟩, if_pos ⟨c1, Or.inl c3⟩]
            · rw [if_neg (fun q => c3 q.2), if_neg (by rintro ⟨_, q | q⟩; exact c3 q; exact c2 q)]
        · rw [if_neg (fun q => c1 q.1), if_neg (fun q => c1 q.1), if_neg (fun q => c1 q.1)]
      rw [e9]
      exact ih (i + 1) (by omega) (by omega)
    · have e2 : i = (qL g (n + 10)).length := by omega
      subst e2
      exact ok_itT (nI_le (Nat.le_refl _) (by omega)) (ok_pI (cs_disk hC2) (ok_pu hq))
theorem stF_0 : wF g (stF n g 0) = g := by
  have : stF n g 0 = qi g := by
    funext j a
    unfold stF
    rw [if_neg (by simp)]
  rw [this]
  rfl
theorem ok_settle {k : Unit → M α} (hC : Cs n g) (hD : DI n g) (hx : ok (k ()) (wI (wF g (stF n g (qL g (n + 10)).length)) 603 (n + 9) 0) Q) : ok (bd (X3_settle (n + 9)) k) g Q := by
  refine ok_len hC (fun hl => ok_bd ?_)
  have : FU = 1000000 := rfl
  have := settle_loop (k := k) (Q := fun v g1 => ok (k v) g1 Q) hC hD hl hx FU 0 (by omega) (Nat.zero_le _)
  rw [stF_0] at this
  exact this
theorem settle_FV : FV n (wI (wF g (stF n g (qL g (n + 10)).length)) 603 (n + 9) 0) = (FV n g).map (fun f => (f.1, f.2.1, f.2.2.1, f.2.2.2.1, 0)) := by
  unfold FV
  rw [List.map_map]
  apply List.map_congr_left
  intro d hd
  show (u2 (stF n g (qL g (n + 10)).length) 603 (n + 9) 0 701 d, u2 (stF n g (qL g (n + 10)).length) 603 (n + 9) 0 702 d, qB g (d + 1), qC g (d + 1), u2 (stF n g (qL g (n + 10)).length) 603 (n + 9) 0 703 d) = _
  rw [u2_ne (by omega), u2_ne (by omega), u2_ne (by omega)]
  unfold stF
  rw [if_neg (by omega), if_neg (by omega), if_pos ⟨rfl, by rw [List.take_length]; exact hd⟩]
  rfl
theorem settle_fra (hD : DI n g) : fra (ownD n g) g (wI (wF g (stF n g (qL g (n + 10)).length)) 603 (n + 9) 0) := by
  refine fra_trans (P' := ownD n g) (fra_wF ?_) (fra_wI (Or.inr (Or.inr (Or.inr (Or.inl rfl))))) (fun _ _ h => h)
  intro j a hp
  unfold stF
  rw [if_neg]
  rintro ⟨_, q⟩
  exact hp (Or.inl (hD.1 a (List.mem_append_left _ (List.mem_of_mem_take q))).1)
end
