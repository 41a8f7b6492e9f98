/-! where the class's own things lie, from the object at n on -/
def CsK (n : Nat) (g : Gh) : Prop := (qk g n = 12 ∧ qk g (n + 1) = 5 ∧ qk g (n + 3) = 5 ∧ qk g (n + 5) = 5 ∧ qk g (n + 7) = 5) ∧ (qk g (n + 9) = 7 ∧ qk g (n + 10) = 3 ∧ qk g (n + 11) = 3 ∧ qk g (n + 12) = 3) ∧ (qk g (n + 13) = 6 ∧ qk g (n + 14) = 3 ∧ qk g (n + 15) = 3) ∧ qk g (n + 16) = 9 ∧ qk g (n + 17) = 5 ∧ qk g (n + 19) = 5 ∧ qk g (n + 21) = 10
def CsR (n : Nat) (g : Gh) : Prop := (qr g 1100 n = n + 1 ∧ qr g 1101 n = n + 3 ∧ qr g 1102 n = n + 5 ∧ qr g 1103 n = n + 7) ∧ (qr g 1104 n = n + 9 ∧ qr g 1105 n = n + 13 ∧ qr g 1106 n = n + 16 ∧ qr g 1107 n = n + 21) ∧ (qr g 600 (n + 9) = n + 10 ∧ qr g 601 (n + 9) = n + 11 ∧ qr g 602 (n + 9) = n + 12) ∧ (qr g 500 (n + 13) = n + 14 ∧ qr g 501 (n + 13) = n + 15) ∧ (qr g 800 (n + 16) = n + 9 ∧ qr g 801 (n + 16) = n + 13 ∧ qr g 802 (n + 16) = n + 17 ∧ qr g 803 (n + 16) = n + 19) ∧ qr g 900 (n + 21) = n + 9 ∧ qr g 901 (n + 21) = n + 13
def Cs (n : Nat) (g : Gh) : Prop := 0 < n ∧ CsK n g ∧ CsR n g
/-- kinds stay -/
def kle (g g' : Gh) : Prop := ∀ a, qk g a ≠ 0 → qk g' a = qk g a
theorem kle_refl {g : Gh} : kle g g := fun _ _ => rfl
theorem kle_trans {g g1 g2 : Gh} (h1 : kle g g1) (h2 : kle g1 g2) : kle g g2 := fun a ha => (h2 a (by rw [h1 a ha]; exact ha)).trans (h1 a ha)
theorem kle_at {g g' : Gh} (h : kle g g') {a k : Nat} (hk : qk g a = k) (h0 : k ≠ 0) : qk g' a = k := (h a (by omega)).trans hk
section
variable {n : Nat} {g g' : Gh}
theorem cs_x (h : Cs n g) : qk g n = 12 := h.2.1.1.1
theorem cs_tape (h : Cs n g) : qk g (n + 1) = 5 := h.2.1.1.2.1
theorem cs_taken (h : Cs n g) : qk g (n + 3) = 5 := h.2.1.1.2.2.1
theorem cs_found (h : Cs n g) : qk g (n + 5) = 5 := h.2.1.1.2.2.2.1
theorem cs_draft (h : Cs n g) : qk g (n + 7) = 5 := h.2.1.1.2.2.2.2
theorem cs_disk (h : Cs n g) : qk g (n + 9) = 7 := h.2.1.2.1.1
theorem cs_fl (h : Cs n g) : qk g (n + 10) = 3 := h.2.1.2.1.2.1
theorem cs_sp (h : Cs n g) : qk g (n + 11) = 3 := h.2.1.2.1.2.2.1
theorem cs_av (h : Cs n g) : qk g (n + 12) = 3 := h.2.1.2.1.2.2.2
theorem cs_dir (h : Cs n g) : qk g (n + 13) = 6 := h.2.1.2.2.1.1
theorem cs_rl (h : Cs n g) : qk g (n + 14) = 3 := h.2.1.2.2.1.2.1
theorem cs_rs (h : Cs n g) : qk g (n + 15) = 3 := h.2.1.2.2.1.2.2
theorem cs_mg (h : Cs n g) : qk g (n + 16) = 9 := h.2.1.2.2.2.1
theorem cs_hint (h : Cs n g) : qk g (n + 17) = 5 := h.2.1.2.2.2.2.1
theorem cs_mark (h : Cs n g) : qk g (n + 19) = 5 := h.2.1.2.2.2.2.2.1
theorem cs_op (h : Cs n g) : qk g (n + 21) = 10 := h.2.1.2.2.2.2.2.2
theorem cs_mono (h : Cs n g) (hk : kle g g') (hr : ∀ j, j ≠ 300 → j ≠ 700 → j ≠ 1000 → qr g' j = qr g j) : Cs n g' := by
  obtain ⟨h0, ⟨⟨a1, a2, a3, a4, a5⟩, ⟨a6, a7, a8, a9⟩, ⟨a10, a11, a12⟩, a13, a14, a15, a16⟩, ⟨b1, b2, b3, b4⟩, ⟨b5, b6, b7, b8⟩, ⟨b9, b10, b11⟩, ⟨b12, b13⟩, ⟨b14, b15, b16, b17⟩, b18, b19⟩ := h
  refine ⟨h0, ⟨⟨?_, ?_, ?_, ?_, ?_⟩, ⟨?_, ?_, ?_, ?_⟩, ⟨?_, ?_, ?_⟩, ?_, ?_, ?_, ?_⟩, ⟨?_, ?_, ?_, ?_⟩, ⟨?_, ?_, ?_, ?_⟩, ⟨?_, ?_, ?_⟩, ⟨?_, ?_⟩, ⟨?_, ?_, ?_, ?_⟩, ?_, ?_⟩
  all_goals first
    | (refine kle_at hk (by assumption) (by decide))
    | (rw [hr _ (by decide) (by decide) (by decide)]; assumption)
variable {α : Type} {Q : α → Gh → Prop}
theorem ok_fresh {x : M α} (hx : qk g (qn g) = 0 → qk g (qn g + 1) = 0 → (∀ a, qk g a ≠ 0 → a < qn g) → ok x g Q) : ok x g Q := by
  intro h ha
  obtain ⟨w, A⟩ := ha
  have k3 := A.1.2.2
  refine hx ?_ ?_ (fun a ha => (k3 a ha).2) h ⟨w, A⟩
  · by_cases e : qk g (qn g) = 0
    · exact e
    · have := (k3 _ e).2
      omega
  · by_cases e : qk g (qn g + 1) = 0
    · exact e
    · have := (k3 _ e).2
      omega
theorem ok_fl {k : Nat → M α} (hC : Cs n g) (hx : ok (k (n + 10)) g Q) : ok (bd (gR 6 0 (n + 9)) k) g Q := ok_gR (cs_disk hC) hC.2.2.2.2.1.1 (by omega) hx
theorem ok_sp {k : Nat → M α} (hC : Cs n g) (hx : ok (k (n + 11)) g Q) : ok (bd (gR 6 1 (n + 9)) k) g Q := ok_gR (cs_disk hC) hC.2.2.2.2.1.2.1 (by omega) hx
theorem ok_av {k : Nat → M α} (hC : Cs n g) (hx : ok (k (n + 12)) g Q) : ok (bd (gR 6 2 (n + 9)) k) g Q := ok_gR (cs_disk hC) hC.2.2.2.2.1.2.2 (by omega) hx
theorem ok_rl {k : Nat → M α} (hC : Cs n g) (hx : ok (k (n + 14)) g Q) : ok (bd (gR 5 0 (n + 13)) k) g Q := ok_gR (cs_dir hC) hC.2.2.2.2.2.1.1 (by omega) hx
theorem ok_rs {k : Nat → M α} (hC : Cs n g) (hx : ok (k (n + 15)) g Q) : ok (bd (gR 5 1 (n + 13)) k) g Q := ok_gR (cs_dir hC) hC.2.2.2.2.2.1.2 (by omega) hx
theorem ok_md {k : Nat → M α} (hC : Cs n g) (hx : ok (k (n + 9)) g Q) : ok (bd (gR 8 0 (n + 16)) k) g Q := ok_gR (cs_mg hC) hC.2.2.2.2.2.2.1.1 (by omega) hx
theorem ok_mr {k : Nat → M α} (hC : Cs n g) (hx : ok (k (n + 13)) g Q) : ok (bd (gR 8 1 (n + 16)) k) g Q := ok_gR (cs_mg hC) hC.2.2.2.2.2.2.1.2.1 (by omega) hx
theorem ok_mh {k : Nat → M α} (hC : Cs n g) (hx : ok (k (n + 17)) g Q) : ok (bd (gR 8 2 (n + 16)) k) g Q := ok_gR (cs_mg hC) hC.2.2.2.2.2.2.1.2.2.1 (by omega) hx
theorem ok_mm {k : Nat → M α} (hC : Cs n g) (hx : ok (k (n + 19)) g Q) : ok (bd (gR 8 3 (n + 16)) k) g Q := ok_gR (cs_mg hC) hC.2.2.2.2.2.2.1.2.2.2 (by omega) hx
theorem ok_od {k : Nat → M α} (hC : Cs n g) (hx : ok (k (n + 9)) g Q) : ok (bd (gR 9 0 (n + 21)) k) g Q := ok_gR (cs_op hC) hC.2.2.2.2.2.2.2.1 (by omega) hx
theorem ok_or {k : Nat → M α} (hC : Cs n g) (hx : ok (k (n + 13)) g Q) : ok (bd (gR 9 1 (n + 21)) k) g Q := ok_gR (cs_op hC) hC.2.2.2.2.2.2.2.2 (by omega) hx
theorem ok_xtape {k : Nat → M α} (hC : Cs n g) (hx : ok (k (n + 1)) g Q) : ok (bd (gR 11 0 n) k) g Q := ok_gR (cs_x hC) hC.2.2.1.1 (by omega) hx
theorem ok_xtaken {k : Nat → M α} (hC : Cs n g) (hx : ok (k (n + 3)) g Q) : ok (bd (gR 11 1 n) k) g Q := ok_gR (cs_x hC) hC.2.2.1.2.1 (by omega) hx
theorem ok_xfound {k : Nat → M α} (hC : Cs n g) (hx : ok (k (n + 5)) g Q) : ok (bd (gR 11 2 n) k) g Q := ok_gR (cs_x hC) hC.2.2.1.2.2.1 (by omega) hx
theorem ok_xdraft {k : Nat → M α} (hC : Cs n g) (hx : ok (k (n + 7)) g Q) : ok (bd (gR 11 3 n) k) g Q := ok_gR (cs_x hC) hC.2.2.1.2.2.2 (by omega) hx
theorem ok_xd {k : Nat → M α} (hC : Cs n g) (hx : ok (k (n + 9)) g Q) : ok (bd (gR 11 4 n) k) g Q := ok_gR (cs_x hC) hC.2.2.2.1.1 (by omega) hx
theorem ok_xr {k : Nat → M α} (hC : Cs n g) (hx : ok (k (n + 13)) g Q) : ok (bd (gR 11 5 n) k) g Q := ok_gR (cs_x hC) hC.2.2.2.1.2.1 (by omega) hx
theorem ok_xm {k : Nat → M α} (hC : Cs n g) (hx : ok (k (n + 16)) g Q) : ok (bd (gR 11 6 n) k) g Q := ok_gR (cs_x hC) hC.2.2.2.1.2.2.1 (by omega) hx
theorem ok_xo {k : Nat → M α} (hC : Cs n g) (hx : ok (k (n + 21)) g Q) : ok (bd (gR 11 7 n) k) g Q := ok_gR (cs_x hC) hC.2.2.2.1.2.2.2 (by omega) hx
end
