/-! the directory: writing -/
section
variable {n : Nat} {g g' : Gh} {α : Type} {Q : α → Gh → Prop}
def Rp (n : Nat) (g g' : Gh) : Prop := fra (ownR n g) g g' ∧ acc n g g' 0 ∧ RI n g'
def RIns (n : Nat) (g gi : Gh) (t : List Int32) (p r : Nat) : Prop := Rp n g gi ∧ qL gi (n + 14) = (qL g (n + 14)).take p ++ r :: (qL g (n + 14)).drop p ∧ RV n gi = (RV n g).take p ++ (t, 0, 0, 0, 0) :: (RV n g).drop p ∧ r ∉ qL g (n + 14) ∧ (qL gi (n + 15)).length = (qL g (n + 15)).length - 1
theorem rins_of {t : List Int32} {p r : Nat} {gi : Gh} (hR : RI n g) (hz : ∀ a, qk g a ≠ 0 → a < qn g) (hf : fra (ownR n g) g gi) (hacc : acc n g gi 0) (hrn : r ∉ qL g (n + 14)) (hrk : rOk n gi r) (hs15 : qL gi (n + 15) = (qL g (n + 15)).dropLast) (hr15 : r ∉ (qL g (n + 15)).dropLast) (h14 : qL gi (n + 14) = (qL g (n + 14)).take p ++ r :: (qL g (n + 14)).drop p)
    (hi : ∀ j x, x ≠ r → qi gi j x = qi g j x) (hr : ∀ j x, x ≠ r → qr gi j x = qr g j x) (hB : ∀ x, x < qn g → x ≠ r + 1 → qB gi x = qB g x ∧ qC gi x = qC g x) (hk4 : ∀ x, x < qn g → qk gi x = qk g x)
    (hfd : rvw gi r = (t, 0, 0, 0, 0)) : RIns n g gi t p r := by
  have hlt : ∀ x, x ∈ qL g (n + 14) ++ qL g (n + 15) → x < qn g ∧ x + 1 < qn g := fun x hx => by
    obtain ⟨b1, b2, b3, b4⟩ := hR.1 x hx
    exact ⟨hz x (by omega), hz _ (by omega)⟩
  have hold : ∀ x, x ∈ qL g (n + 14) ++ qL g (n + 15) → x ≠ r → rvw gi x = rvw g x ∧ qC gi (x + 1) = qC g (x + 1) := fun x hx hne => by
    obtain ⟨l1, l2⟩ := hlt x hx
    obtain ⟨e1, e2⟩ := hB (x + 1) l2 (by omega)
    refine ⟨?_, e2⟩
    unfold rvw
    rw [hi _ _ hne, hi _ _ hne, hi _ _ hne, hi _ _ hne, e1]
  refine ⟨⟨hf, hacc, ?_, ?_⟩, h14, ?_, hrn, ?_⟩
  · intro x hx
    by_cases e : x = r
    · rw [e]
      exact hrk
    · have hx2 : x ∈ qL g (n + 14) ++ qL g (n + 15) := by
        rw [h14, hs15, List.mem_append] at hx
        rw [List.mem_append]
        rcases hx with q | q
        · rcases mem_ins q with q2 | q2
          · exact absurd q2 e
          · exact Or.inl q2
        · exact Or.inr ((List.dropLast_sublist _).subset q)
      obtain ⟨b1, b2, b3, b4, b5⟩ := hR.1 x hx2
      obtain ⟨l1, l2⟩ := hlt x hx2
      exact ⟨by rw [hk4 x l1]; exact b1, by rw [hr _ _ e]; exact b2, by rw [hk4 _ l2]; exact b3, b4, by rw [(hB (x + 1) l2 (by omega)).2]; exact b5⟩
  · rw [h14, hs15]
    obtain ⟨n1, n2, n3⟩ := List.nodup_append.mp hR.2
    rw [List.nodup_append]
    refine ⟨nodup_ins n1 hrn, n2.sublist (List.dropLast_sublist _), ?_⟩
    intro x hx y hy
    rcases mem_ins hx with q | q
    · intro e
      exact hr15 (q ▸ e ▸ hy)
    · exact n3 x q y ((List.dropLast_sublist _).subset hy)
  · unfold RV
    rw [h14, List.map_append, List.map_cons, hfd, List.map_take, List.map_drop]
    have e : (qL g (n + 14)).map (rvw gi) = (qL g (n + 14)).map (rvw g) := List.map_congr_left (fun x hx => (hold x (List.mem_append_left _ hx) (fun q => hrn (q ▸ hx))).1)
    rw [e]
  · rw [hs15, List.length_dropLast]
/-- a row is told -/
def tel (g : Gh) (r : Nat) (a b c d : Int32) : Gh := wI (wI (wI (wI g 1001 r a) 1002 r b) 1003 r c) 1004 r d
theorem tel_i {r : Nat} {a b c d : Int32} : qi (tel g r a b c d) = u2 (u2 (u2 (u2 (qi g) 1001 r a) 1002 r b) 1003 r c) 1004 r d := rfl
theorem ok_tell {r : Nat} {a b c d : Int32} {k : Unit → M α} (hr : rOk n g r) (hx : ok (k ()) (tel g r a b c d) Q) : ok (bd (X7_tell r a b c d) k) g Q := by
  refine ok_bd ?_
  unfold X7_tell
  exact ok_pI (c := 10) hr.1 (ok_pI (c := 10) hr.1 (ok_pI (c := 10) hr.1 (ok_pI (c := 10) hr.1 (ok_pu hx))))
theorem tel_Rp {p r : Nat} {a b c d : Int32} (hR : RI n g) (hp : (qL g (n + 14))[p]? = some r) : Rp n g (tel g r a b c d) ∧ RV n (tel g r a b c d) = (RV n g).set p (qB g (r + 1), a, b, c, d) := by
  have hrk := ri_at hR hp
  have hP : ownR n g r := Or.inl hrk.1
  refine ⟨⟨?_, ⟨⟨Nat.le_refl _, Nat.le_refl _⟩, fun h => h⟩, hR⟩, ?_⟩
  · exact fra_trans (P' := ownR n g) (fra_trans (P' := ownR n g) (fra_trans (P' := ownR n g) (fra_wI hP) (fra_wI hP) (fun _ _ h => h)) (fra_wI hP) (fun _ _ h => h)) (fra_wI hP) (fun _ _ h => h)
  · unfold RV
    refine map_upd (List.nodup_append.mp hR.2).1 hp (fun x hx hne => ?_) ?_
    · unfold rvw
      rw [tel_i]
      simp only [u2]
      simp [hne]
      rfl
    · unfold rvw
      rw [tel_i]
      simp only [u2]
      simp
      rfl
/-- the heap of a row with its key -/
def rkey (g : Gh) (r : Nat) (t : List Int32) : Gh := tel (wB (wX g (r + 1) []) (r + 1) t) r 0 0 0 0
theorem ok_b66 {Q : Nat → Gh → Prop} {c f m p r : Nat} {i x y : Int32} (hC : Cs n g) (hrk : rOk n g r) (hc : qk g c = 5) (hcr : c ≠ r + 1) (hi : i = (-1) - nI p) (hp : p ≤ (qL g (n + 14)).length) (h14 : (qL g (n + 14)).length ≤ 30000) (hx : x = nI f) (hy : y = nI m) (hl : f + m ≤ (qB g c).length) (hm : m ≤ 16) (hk : Q r (wL (rkey g r (((qB g c).drop f).take m)) (n + 14) ((qL g (n + 14)).take p ++ r :: (qL g (n + 14)).drop p))) : ok (X2_rowFor_b66 (n + 13) c x y i r) g Q := by
  refine ok_nz (fun hz => ?_)
  unfold X2_rowFor_b66
  have hB : qB (wX g (r + 1) []) (r + 1) = [] := by rw [p_qB_wX, vu_eq]
  have hBc : qB (wX g (r + 1) []) c = qB g c := by rw [p_qB_wX, vu_ne hcr]
  have e1 : -1 - i = nI p := by
    rw [hi]
    grind
  refine ok_rby hrk (ok_ck (c := 4) hrk.2.2.1 (ok_bclr hrk.2.2.1 (ok_gR (c := 10) hrk.1 hrk.2.1 (by omega) (ok_ck (c := 4) hrk.2.2.1 (ok_bpart (b := r + 1) (c := c) hrk.2.2.1 hc hcr hx hy (by rw [hBc]; exact hl) (by rw [hB]; simp; omega) ?_)))))
  rw [hB, hBc, List.nil_append]
  have hrk2 : qk (wB (wX g (r + 1) []) (r + 1) (((qB g c).drop f).take m)) r = 11 := hrk.1
  refine ok_ck (c := 10) hrk2 (ok_bd ?_)
  unfold X7_tell
  refine ok_pI (c := 10) hrk2 (ok_pI (c := 10) hrk2 (ok_pI (c := 10) hrk2 (ok_pI (c := 10) hrk2 (ok_pu ?_))))
  show ok _ (rkey g r (((qB g c).drop f).take m)) Q
  have hC2 : Cs n (rkey g r (((qB g c).drop f).take m)) := hC
  refine ok_rl hC2 (ok_ck (cs_rl hC2) ?_)
  rw [e1]
  refine ok_lins (cs_rl hC2) rfl (by show p ≤ (qL g (n + 14)).length; exact hp) (Or.inr (Or.inr (show qk g r = 11 from hrk.1))) (by show (qL g (n + 14)).length ≤ _; exact h14) (ok_pu hk)
theorem rk_B {r : Nat} {t : List Int32} : qB (rkey g r t) = va_up (qB g) (r + 1) t := by
  show va_up (va_up (qB g) (r + 1) []) (r + 1) t = _
  rw [va_va]
theorem rk_C {r : Nat} {t : List Int32} (hc : qC g (r + 1) = 16) (ht : t.length ≤ 16) : qC (rkey g r t) = qC g := by
  show va_up (qC g) (r + 1) (gcap (qC g (r + 1)) t.length) = _
  exact va_same (by rw [hc]; unfold gcap; rw [if_pos ht])
theorem rk_s {r : Nat} {t : List Int32} (hc : qC g (r + 1) = 16) (ht : t.length ≤ 16) : qs (rkey g r t) = qs g ∧ qn (rkey g r t) = qn g := by
  constructor
  · show qs g + (if t.length ≤ qC g (r + 1) then 0 else _) = _
    rw [if_pos (by omega)]
    rfl
  · show qn g + (if t.length ≤ qC g (r + 1) then 0 else _) = _
    rw [if_pos (by omega)]
    rfl
theorem rk_i {r : Nat} {t : List Int32} : qi (rkey g r t) = u2 (u2 (u2 (u2 (qi g) 1001 r 0) 1002 r 0) 1003 r 0) 1004 r 0 := rfl
theorem rk_fra {r : Nat} {t : List Int32} (hrk : rOk n g r) : fra (ownR n g) g (rkey g r t) := by
  have hP : ownR n g r := Or.inl hrk.1
  have hP1 : ownR n g (r + 1) := Or.inr (Or.inl ⟨hrk.2.2.1, hrk.1⟩)
  unfold rkey tel
  exact fra_trans (P' := ownR n g) (fra_trans (P' := ownR n g) (fra_trans (P' := ownR n g) (fra_trans (P' := ownR n g) (fra_trans (P' := ownR n g) (fra_wX hP1) (fra_wB hP1) (fun _ _ h => h)) (fra_wI hP) (fun _ _ h => h)) (fra_wI hP) (fun _ _ h => h)) (fra_wI hP) (fun _ _ h => h)) (fra_wI hP) (fun _ _ h => h)
/-- one more in the list: the slots -/
theorem acc_ins {l2 : List Nat} {g1 : Gh} {d : Nat} (hE : (qL g (n + 14)).length ≤ qE g (n + 14)) (hl : l2.length = (qL g (n + 14)).length + 1) (hs : qs g1 + 0 = qs g + 23 * d) (hn : qn g1 = qn g + 3 * d) (hC1 : ∀ k, k < 22 → qC g1 (n + k) = qC g (n + k)) (hE1 : qE g1 = qE g) (hL : ∀ k, k < 15 → qL g1 (n + k) = qL g (n + k)) (h15 : (qL g1 (n + 15)).length + 1 = (qL g (n + 15)).length + d) : acc n g (wL g1 (n + 14) l2) 0 := by
  have e3 := ecap_4 (c := qE g (n + 14)) (m := (qL g (n + 14)).length + 1) (by omega)
  obtain ⟨s1, m1, hs1, hm1, hs2, hm2⟩ : ∃ s1 m1 : Nat, qs (wL g1 (n + 14) l2) = qs g + 23 * d + s1 ∧ qn (wL g1 (n + 14) l2) = qn g + 3 * d + m1 ∧ s1 + 4 * qE g (n + 14) ≤ 4 * ecap (qE g (n + 14)) ((qL g (n + 14)).length + 1) ∧ m1 + qE g (n + 14) ≤ ecap (qE g (n + 14)) ((qL g (n + 14)).length + 1) := by
    refine ⟨if (qL g (n + 14)).length + 1 ≤ qE g (n + 14) then 0 else ecap (qE g (n + 14)) ((qL g (n + 14)).length + 1), if (qL g (n + 14)).length + 1 ≤ qE g (n + 14) then 0 else 1, ?_, ?_, e3.1, e3.2.1⟩
    · rw [p_qs_wL, hE1, hl, ← hs]
      rfl
    · rw [p_qn_wL, hE1, hl, hn]
  have hl2 : qE (wL g1 (n + 14) l2) (n + 14) = ecap (qE g (n + 14)) ((qL g (n + 14)).length + 1) := by
    rw [p_qE_wL, vu_eq, hE1, hl]
  refine ⟨?_, fun hCE => ?_⟩
  · unfold acc2 rsum ccnt
    rw [hs1, hm1, hl2]
    simp only [p_qC_wL, p_qL_wL, p_qE_wL, hE1]
    rw [hC1 1 (by omega), hC1 3 (by omega), hC1 5 (by omega), hC1 7 (by omega), hC1 17 (by omega), hC1 19 (by omega)]
    rw [vu_eq, vu_ne (by omega), vu_ne (by omega), vu_ne (by omega), vu_ne (by omega), vu_ne (by omega), vu_ne (by omega), vu_ne (by omega), vu_ne (by omega), hL 10 (by omega), hL 11 (by omega), hL 12 (by omega), hl]
    omega
  · have e5 := ecap_5 (c := qE g (n + 14)) (m := (qL g (n + 14)).length + 1)
    have c2 : ∀ k, k ≠ 14 → qL (wL g1 (n + 14) l2) (n + k) = qL g1 (n + k) := by
      intro k hk
      rw [p_qL_wL, vu_ne (by omega)]
    have c3 : ∀ k, k ≠ 14 → qE (wL g1 (n + 14) l2) (n + k) = qE g (n + k) := by
      intro k hk
      rw [p_qE_wL, vu_ne (by omega), hE1]
    have c4 : (qL (wL g1 (n + 14) l2) (n + 14)).length = (qL g (n + 14)).length + 1 := by
      rw [p_qL_wL, vu_eq, hl]
    unfold CE at hCE ⊢
    rw [p_qC_wL, hC1 1 (by omega), hC1 3 (by omega), hC1 5 (by omega), hC1 7 (by omega), hl2, c4, c2 10 (by omega), c2 11 (by omega), c2 12 (by omega), c2 15 (by omega), c3 10 (by omega), c3 11 (by omega), c3 12 (by omega), c3 15 (by omega), hL 10 (by omega), hL 11 (by omega), hL 12 (by omega)]
    omega
def newR (g : Gh) : Gh := wR (wNB (wO g 10 5)) 1000 (qn g) (qn g + 1)
theorem nr_i : qi (newR g) = (fun j a => if j / 100 = 10 ∧ a = qn g then 0 else qi g j a) := rfl
theorem nr_r : qr (newR g) = u2 (fun j a => if j / 100 = 10 ∧ a = qn g then 0 else qr g j a) 1000 (qn g) (qn g + 1) := rfl
theorem nr_k : qk (newR g) = va_up (va_up (qk g) (qn g) 11) (qn g + 1) 5 := rfl
theorem nr_B : qB (newR g) = va_up (qB g) (qn g + 1) [] := rfl
theorem nr_C : qC (newR g) = va_up (qC g) (qn g + 1) 16 := rfl
theorem nr_L : qL (newR g) = qL g := rfl
theorem nr_E : qE (newR g) = qE g := rfl
theorem nr_fra : fra (fun _ => False) g (newR g) := by
  refine ⟨?_, ?_, ?_, ?_⟩
  · show qn g ≤ qn g + 1 + 2
    omega
  · intro q hq
    rw [nr_k, vu_ne (by omega), vu_ne (by omega)]
  · intro q hq j h1 h2 h3
    rw [nr_r, u2_ne (by omega)]
    exact if_neg (by omega)
  · intro q hq _
    refine ⟨fun j => ?_, fun j => ?_, ⟨?_, ?_⟩, ⟨rfl, rfl⟩, rfl, rfl⟩
    · rw [nr_i]
      exact if_neg (by omega)
    · rw [nr_r, u2_ne (by omega)]
      exact if_neg (by omega)
    · rw [nr_B, vu_ne (by omega)]
    · rw [nr_C, vu_ne (by omega)]
theorem nr_ok (hn : n + 21 < qn g) : rOk n (newR g) (qn g) := ⟨by rw [nr_k, vu_ne (by omega), vu_eq], by rw [nr_r, u2_eq], by rw [nr_k, vu_eq], by omega, by rw [nr_C, vu_eq]⟩
theorem nr_ins {t : List Int32} {p : Nat} (hC : Cs n g) (hR : RI n g) (hz : ∀ a, qk g a ≠ 0 → a < qn g) (hE : (qL g (n + 14)).length ≤ qE g (n + 14)) (hp : p ≤ (qL g (n + 14)).length) (ht : t.length ≤ 16) (h1 : qL g (n + 15) = []) : RIns n g (wL (rkey (newR g) (qn g) t) (n + 14) ((qL g (n + 14)).take p ++ qn g :: (qL g (n + 14)).drop p)) t p (qn g) := by
  have hn : n + 21 < qn g := hz _ (by rw [cs_op hC]; decide)
  have hrk := nr_ok (g := g) hn
  have hm : ∀ {l : List Nat}, (∀ q, q ∈ l → q < qn g) → qn g ∉ l := fun h q => Nat.lt_irrefl _ (h _ q)
  have hlt : ∀ q, q ∈ qL g (n + 14) ++ qL g (n + 15) → q < qn g := fun q hq => hz q (by rw [(hR.1 q hq).1]; decide)
  have hl4 : ((qL g (n + 14)).take p ++ qn g :: (qL g (n + 14)).drop p).length = (qL g (n + 14)).length + 1 := by
    simp only [List.length_append, List.length_cons, List.length_take, List.length_drop]
    omega
  have hst := rk_s (g := newR g) (r := qn g) (t := t) hrk.2.2.2.2 ht
  have hCC := rk_C (g := newR g) (r := qn g) (t := t) hrk.2.2.2.2 ht
  refine rins_of hR hz ?_ ?_ (hm (fun q hq => hlt q (List.mem_append_left _ hq))) ⟨hrk.1, hrk.2.1, hrk.2.2.1, hrk.2.2.2.1, ?_⟩ ?_ ?_ ?_ ?_ ?_ ?_ ?_ ?_
  · refine fra_trans (P' := ownR n g) (fra_trans (P' := ownR n (newR g)) (fra_mono nr_fra (fun _ _ h => h.elim)) (rk_fra hrk) (ownR_eq nr_fra)) (fra_wL (Or.inr (Or.inr (Or.inl rfl)))) (fun _ _ h => h)
  · refine acc_ins (d := 1) hE hl4 ?_ ?_ ?_ ?_ ?_ ?_
    · rw [hst.1]
      rfl
    · rw [hst.2]
      rfl
    · intro k hk
      rw [hCC, nr_C, vu_ne (by omega)]
    · rfl
    · intro k hk
      rfl
    · show (qL g (n + 15)).length + 1 = _
      rfl
  · rw [p_qC_wL, hCC]
    exact hrk.2.2.2.2
  · rw [p_qL_wL, vu_ne (by omega)]
    show qL g (n + 15) = _
    rw [h1]
    rfl
  · rw [h1]
    simp
  · rw [p_qL_wL, vu_eq]
  · intro j q hq
    rw [p_qi_wL, rk_i, u2_ne (by omega), u2_ne (by omega), u2_ne (by omega), u2_ne (by omega), nr_i]
    exact if_neg (by omega)
  · intro j q hq
    rw [p_qr_wL]
    show qr (newR g) j q = _
    rw [nr_r, u2_ne (by omega)]
    exact if_neg (by omega)
  · intro q hq hne
    rw [p_qB_wL, p_qC_wL, rk_B, hCC, nr_B, nr_C, vu_ne (by omega), vu_ne (by omega), vu_ne (by omega)]
    exact ⟨rfl, rfl⟩
  · intro q hq
    exact nr_fra.2.1 q hq
  · unfold rvw
    rw [p_qB_wL, p_qi_wL, rk_B, vu_eq, rk_i]
    simp only [u2]
    simp
def oldR (n : Nat) (g : Gh) : Gh := wl g (n + 15) (qL g (n + 15)).dropLast
theorem or_ins {t : List Int32} {p r : Nat} (hC : Cs n g) (hR : RI n g) (hz : ∀ a, qk g a ≠ 0 → a < qn g) (hE : (qL g (n + 14)).length ≤ qE g (n + 14)) (hp : p ≤ (qL g (n + 14)).length) (ht : t.length ≤ 16) (elast : (qL g (n + 15)).getLast? = some r) : RIns n g (wL (rkey (oldR n g) r t) (n + 14) ((qL g (n + 14)).take p ++ r :: (qL g (n + 14)).drop p)) t p r := by
  have hrm : r ∈ qL g (n + 15) := List.mem_of_getLast? elast
  have hrk := hR.1 r (List.mem_append_right _ hrm)
  have hrk2 : rOk n (oldR n g) r := hrk
  obtain ⟨nd1, nd2, nd3⟩ := List.nodup_append.mp hR.2
  have ne15 : qL g (n + 15) ≠ [] := fun q => by rw [q] at hrm; cases hrm
  have esp : qL g (n + 15) = (qL g (n + 15)).dropLast ++ [r] := by
    have := List.dropLast_concat_getLast ne15
    rw [List.getLast?_eq_some_getLast ne15] at elast
    rw [Option.some.inj elast] at this
    exact this.symm
  have hlen : (qL g (n + 15)).length = (qL g (n + 15)).dropLast.length + 1 := by
    conv => lhs; rw [esp]
    simp
  have hl4 : ((qL g (n + 14)).take p ++ r :: (qL g (n + 14)).drop p).length = (qL g (n + 14)).length + 1 := by
    simp only [List.length_append, List.length_cons, List.length_take, List.length_drop]
    omega
  have hst := rk_s (g := oldR n g) (r := r) (t := t) hrk2.2.2.2.2 ht
  have hCC := rk_C (g := oldR n g) (r := r) (t := t) hrk2.2.2.2.2 ht
  have hL : qL (rkey (oldR n g) r t) = va_up (qL g) (n + 15) (qL g (n + 15)).dropLast := rfl
  refine rins_of hR hz ?_ ?_ (fun q => nd3 r q r hrm rfl) ⟨hrk.1, hrk.2.1, hrk.2.2.1, hrk.2.2.2.1, ?_⟩ ?_ ?_ ?_ ?_ ?_ ?_ ?_ ?_
  · refine fra_trans (P' := ownR n g) (fra_trans (P' := ownR n g) (fra_wl (Or.inr (Or.inr (Or.inr rfl)))) (rk_fra hrk2) (fun _ _ h => h)) (fra_wL (Or.inr (Or.inr (Or.inl rfl)))) (fun _ _ h => h)
  · refine acc_ins (d := 0) hE hl4 ?_ ?_ ?_ ?_ ?_ ?_
    · rw [hst.1]
      rfl
    · rw [hst.2]
      rfl
    · intro k hk
      rw [hCC]
      rfl
    · rfl
    · intro k hk
      rw [hL, vu_ne (by omega)]
    · rw [hL, vu_eq, hlen]
  · rw [p_qC_wL, hCC]
    exact hrk.2.2.2.2
  · rw [p_qL_wL, vu_ne (by omega), hL, vu_eq]
  · have := nd2
    rw [esp, List.nodup_append] at this
    intro q
    exact this.2.2 r q r (List.mem_singleton.mpr rfl) rfl
  · rw [p_qL_wL, vu_eq]
  · intro j q hq
    rw [p_qi_wL, rk_i, u2_ne (by omega), u2_ne (by omega), u2_ne (by omega), u2_ne (by omega)]
    rfl
  · intro j q hq
    rfl
  · intro q hq hne
    rw [p_qB_wL, p_qC_wL, rk_B, hCC, vu_ne (by omega)]
    exact ⟨rfl, rfl⟩
  · intro q hq
    rfl
  · unfold rvw
    rw [p_qB_wL, p_qi_wL, rk_B, vu_eq, rk_i]
    simp only [u2]
    simp
/-- the key's row: where it is, or a new one -/
theorem ok_rowFor {c f m : Nat} {x y : Int32} {k : Nat → M α} (hC : Cs n g) (hR : RI n g) (hS : SrtR (RV n g)) (hc : qk g c = 5) (hco : ¬ ownR n g c) (hx : x = nI f) (hy : y = nI m) (hl : f + m ≤ (qB g c).length) (hm : m ≤ 16) (h14 : (qL g (n + 14)).length ≤ 30000)
    (h1 : ∀ r, (qL g (n + 14))[plR (((qB g c).drop f).take m) (RV n g)]? = some r → csg (qB g (r + 1)) (((qB g c).drop f).take m) = 0 → ok (k r) g Q)
    (h2 : ∀ gi r, (∀ s, (RV n g)[plR (((qB g c).drop f).take m) (RV n g)]? = some s → ¬ csg s.1 (((qB g c).drop f).take m) = 0) → RIns n g gi (((qB g c).drop f).take m) (plR (((qB g c).drop f).take m) (RV n g)) r → ok (k r) gi Q) : ok (bd (X2_rowFor (n + 13) c x y) k) g Q := by
  refine ok_nz (fun hz => ok_capL (cs_rl hC) (fun h60 hE => ok_capL (cs_rs hC) (fun h60b hE15 => ok_bd ?_)))
  unfold X2_rowFor
  refine ok_ck (cs_dir hC) (ok_indexOf hC hR hS hc hx hy hl ?_)
  have htl : (((qB g c).drop f).take m).length = m := by rw [List.length_take, List.length_drop]; omega
  generalize ht : ((qB g c).drop f).take m = t at *
  have hp := plR_le t (RV n g)
  rw [rv_len] at hp
  unfold idxR
  cases hn : ((RV n g)[plR t (RV n g)]?).filter (isR t) with
  | some w =>
    obtain ⟨hw1, hw2⟩ := Option.filter_eq_some_iff.mp hn
    have hlt := lt_of_some hw1
    rw [rv_len] at hlt
    obtain ⟨r, hr⟩ := some_of_lt hlt
    have hrv := rv_at hr
    have e : w = rvw g r := by rw [hw1] at hrv; exact Option.some.inj hrv
    have c0 : csg (qB g (r + 1)) t = 0 := by
      rw [e] at hw2
      exact of_decide_eq_true hw2
    exact ok_itF (nI_pos (by omega)) (ok_rget hC hR rfl hr (fun _ => ok_pu (h1 r hr c0)))
  | none =>
    have hno : ∀ s, (RV n g)[plR t (RV n g)]? = some s → ¬ csg s.1 t = 0 := by
      intro s hs q
      rw [hs] at hn
      simp only [Option.filter_some] at hn
      rw [if_pos] at hn
      · cases hn
      · unfold isR
        simpa using q
    have hneg : (-1 : Int32) - nI (plR t (RV n g)) < 0 := by
      have e : (-1 : Int32) - nI (plR t (RV n g)) = nI 0 - nI (plR t (RV n g) + 1) := by
        rw [← nI_1]
        show -1 - nI (plR t (RV n g)) = 0 - (nI (plR t (RV n g)) + 1)
        grind
      rw [e, Int32.lt_iff_toInt_lt, nI_subI (by omega) (by omega), Int32.toInt_zero]
      omega
    refine ok_itT hneg (ok_rs hC (ok_ck (cs_rs hC) (ok_lempty (cs_rs hC) ?_)))
    by_cases h0 : (qL g (n + 15)).length = 0
    · rw [if_pos h0]
      have h15 : qL g (n + 15) = [] := List.length_eq_zero_iff.mp h0
      refine ok_itF (by decide) (ok_nw (by decide) (ok_bd ?_))
      unfold X7_init
      have kO : qk (wNB (wO g 10 5)) (qn g) = 11 := by
        rw [p_qk_wNB, vup, if_neg (by rw [p_qn_wO]; omega), p_qk_wO, vu_eq]
      refine ok_newB (ok_pR (c := 10) kO (ok_pu ?_))
      show ok _ (newR g) _
      have hn21 : n + 21 < qn g := hz _ (by rw [cs_op hC]; decide)
      have hcq : c < qn g := hz c (by omega)
      have hBc : qB (newR g) c = qB g c := by rw [nr_B, vu_ne (by omega)]
      refine ok_b66 (cs_fra hC nr_fra hz) (nr_ok hn21) (fra_k nr_fra hz hc (by decide)) (by omega) rfl hp h14 hx hy (by rw [hBc]; exact hl) hm ?_
      rw [hBc, ht, nr_L]
      exact h2 _ _ hno (nr_ins hC hR hz hE hp (by omega) h15)
    · rw [if_neg h0]
      have e1 : nI (qL g (n + 15)).length - 1 = nI ((qL g (n + 15)).length - 1) := nI_subN (b := 1) (by omega)
      obtain ⟨r, hr⟩ := some_of_lt (show (qL g (n + 15)).length - 1 < (qL g (n + 15)).length by omega)
      have hrm : r ∈ qL g (n + 15) := List.mem_of_getElem? hr
      have hrk := hR.1 r (List.mem_append_right _ hrm)
      have edl : (qL g (n + 15)).eraseIdx ((qL g (n + 15)).length - 1) = (qL g (n + 15)).dropLast := List.eraseIdx_eq_dropLast (by omega)
      refine ok_itT rfl (ok_rs hC (ok_rs hC (ok_ck (cs_rs hC) (ok_lsize (cs_rs hC) (ok_ck (cs_rs hC) ?_)))))
      rw [e1]
      refine ok_lrem (cs_rs hC) rfl hr ?_
      rw [edl]
      have hl14 : qL (oldR n g) (n + 14) = qL g (n + 14) := by
        show va_up (qL g) (n + 15) _ (n + 14) = _
        rw [vu_ne (by omega)]
      have hcr : c ≠ r + 1 := by
        intro q
        subst q
        exact hco (Or.inr (Or.inl ⟨hc, hrk.1⟩))
      refine ok_ck (c := 10) hrk.1 ?_
      show ok _ (oldR n g) _
      refine ok_b66 hC hrk hc hcr rfl (by rw [hl14]; exact hp) (by rw [hl14]; exact h14) hx hy hl hm ?_
      show ok _ (wL (rkey (oldR n g) r (((qB g c).drop f).take m)) _ _) _
      rw [hl14, ht]
      exact h2 _ _ hno (or_ins hC hR hz hE hp (by omega) (by rw [List.getLast?_eq_getElem?]; exact hr))
/-- a row goes to the spares -/
def dro (n : Nat) (g : Gh) (p r : Nat) : Gh := wL (wl g (n + 14) ((qL g (n + 14)).eraseIdx p)) (n + 15) (qL g (n + 15) ++ [r])
theorem dro_L14 {p r : Nat} : qL (dro n g p r) (n + 14) = (qL g (n + 14)).eraseIdx p := by
  unfold dro
  simp only [p_qn_wI, p_qs_wI, p_qk_wI, p_qi_wI, p_qr_wI, p_qB_wI, p_qC_wI, p_qL_wI, p_qE_wI, p_qA_wI, p_qW_wI, p_qn_wR, p_qs_wR, p_qk_wR, p_qi_wR, p_qr_wR, p_qB_wR, p_qC_wR, p_qL_wR, p_qE_wR, p_qA_wR, p_qW_wR, p_qn_wB, p_qs_wB, p_qk_wB, p_qi_wB, p_qr_wB, p_qB_wB, p_qC_wB, p_qL_wB, p_qE_wB, p_qA_wB, p_qW_wB, p_qn_wX, p_qs_wX, p_qk_wX, p_qi_wX, p_qr_wX, p_qB_wX, p_qC_wX, p_qL_wX, p_qE_wX, p_qA_wX, p_qW_wX, p_qn_wL, p_qs_wL, p_qk_wL, p_qi_wL, p_qr_wL, p_qB_wL, p_qC_wL, p_qL_wL, p_qE_wL, p_qA_wL, p_qW_wL, p_qn_wl, p_qs_wl, p_qk_wl, p_qi_wl, p_qr_wl, p_qB_wl, p_qC_wl, p_qL_wl, p_qE_wl, p_qA_wl, p_qW_wl, p_qn_wA, p_qs_wA, p_qk_wA, p_qi_wA, p_qr_wA, p_qB_wA, p_qC_wA, p_qL_wA, p_qE_wA, p_qA_wA, p_qW_wA, p_qn_wW, p_qs_wW, p_qk_wW, p_qi_wW, p_qr_wW, p_qB_wW, p_qC_wW, p_qL_wW, p_qE_wW, p_qA_wW, p_qW_wW, p_qn_wO, p_qs_wO, p_qk_wO, p_qi_wO, p_qr_wO, p_qB_wO, p_qC_wO, p_qL_wO, p_qE_wO, p_qA_wO, p_qW_wO, p_qn_wNB, p_qs_wNB, p_qk_wNB, p_qi_wNB, p_qr_wNB, p_qB_wNB, p_qC_wNB, p_qL_wNB, p_qE_wNB, p_qA_wNB, p_qW_wNB, p_qn_wNL, p_qs_wNL, p_qk_wNL, p_qi_wNL, p_qr_wNL, p_qB_wNL, p_qC_wNL, p_qL_wNL, p_qE_wNL, p_qA_wNL, p_qW_wNL, p_qn_wF, p_qs_wF, p_qk_wF, p_qi_wF, p_qr_wF, p_qB_wF, p_qC_wF, p_qL_wF, p_qE_wF, p_qA_wF, p_qW_wF, vup]
  simp
theorem dro_L15 {p r : Nat} : qL (dro n g p r) (n + 15) = qL g (n + 15) ++ [r] := by
  unfold dro
  simp only [p_qn_wI, p_qs_wI, p_qk_wI, p_qi_wI, p_qr_wI, p_qB_wI, p_qC_wI, p_qL_wI, p_qE_wI, p_qA_wI, p_qW_wI, p_qn_wR, p_qs_wR, p_qk_wR, p_qi_wR, p_qr_wR, p_qB_wR, p_qC_wR, p_qL_wR, p_qE_wR, p_qA_wR, p_qW_wR, p_qn_wB, p_qs_wB, p_qk_wB, p_qi_wB, p_qr_wB, p_qB_wB, p_qC_wB, p_qL_wB, p_qE_wB, p_qA_wB, p_qW_wB, p_qn_wX, p_qs_wX, p_qk_wX, p_qi_wX, p_qr_wX, p_qB_wX, p_qC_wX, p_qL_wX, p_qE_wX, p_qA_wX, p_qW_wX, p_qn_wL, p_qs_wL, p_qk_wL, p_qi_wL, p_qr_wL, p_qB_wL, p_qC_wL, p_qL_wL, p_qE_wL, p_qA_wL, p_qW_wL, p_qn_wl, p_qs_wl, p_qk_wl, p_qi_wl, p_qr_wl, p_qB_wl, p_qC_wl, p_qL_wl, p_qE_wl, p_qA_wl, p_qW_wl, p_qn_wA, p_qs_wA, p_qk_wA, p_qi_wA, p_qr_wA, p_qB_wA, p_qC_wA, p_qL_wA, p_qE_wA, p_qA_wA, p_qW_wA, p_qn_wW, p_qs_wW, p_qk_wW, p_qi_wW, p_qr_wW, p_qB_wW, p_qC_wW, p_qL_wW, p_qE_wW, p_qA_wW, p_qW_wW, p_qn_wO, p_qs_wO, p_qk_wO, p_qi_wO, p_qr_wO, p_qB_wO, p_qC_wO, p_qL_wO, p_qE_wO, p_qA_wO, p_qW_wO, p_qn_wNB, p_qs_wNB, p_qk_wNB, p_qi_wNB, p_qr_wNB, p_qB_wNB, p_qC_wNB, p_qL_wNB, p_qE_wNB, p_qA_wNB, p_qW_wNB, p_qn_wNL, p_qs_wNL, p_qk_wNL, p_qi_wNL, p_qr_wNL, p_qB_wNL, p_qC_wNL, p_qL_wNL, p_qE_wNL, p_qA_wNL, p_qW_wNL, p_qn_wF, p_qs_wF, p_qk_wF, p_qi_wF, p_qr_wF, p_qB_wF, p_qC_wF, p_qL_wF, p_qE_wF, p_qA_wF, p_qW_wF, vup]
  simp
theorem dro_RV {p r : Nat} : RV n (dro n g p r) = (RV n g).eraseIdx p := by
  unfold RV
  rw [dro_L14, map_er]
  rfl
theorem dro_Rp {p r : Nat} (hR : RI n g) (hr : (qL g (n + 14))[p]? = some r) (h15 : (qL g (n + 15)).length ≤ qE g (n + 15)) : Rp n g (dro n g p r) := by
  have hp := lt_of_some hr
  refine ⟨?_, ?_, ?_⟩
  · exact fra_trans (P' := ownR n g) (fra_wl (Or.inr (Or.inr (Or.inl rfl)))) (fra_wL (Or.inr (Or.inr (Or.inr rfl)))) (fun _ _ h => h)
  · have e1 : (qL (dro n g p r) (n + 14)).length = (qL g (n + 14)).length - 1 := by rw [dro_L14, List.length_eraseIdx_of_lt hp]
    have e2 : (qL (dro n g p r) (n + 15)).length = (qL g (n + 15)).length + 1 := by rw [dro_L15]; simp
    have e3 := ecap_4 (c := qE g (n + 15)) (m := (qL g (n + 15)).length + 1) (by omega)
    have e5 := ecap_5 (c := qE g (n + 15)) (m := (qL g (n + 15)).length + 1)
    refine ⟨?_, fun hCE => ?_⟩
    · unfold acc2 rsum ccnt
      rw [e1, e2]
      unfold dro
      simp only [p_qn_wI, p_qs_wI, p_qk_wI, p_qi_wI, p_qr_wI, p_qB_wI, p_qC_wI, p_qL_wI, p_qE_wI, p_qA_wI, p_qW_wI, p_qn_wR, p_qs_wR, p_qk_wR, p_qi_wR, p_qr_wR, p_qB_wR, p_qC_wR, p_qL_wR, p_qE_wR, p_qA_wR, p_qW_wR, p_qn_wB, p_qs_wB, p_qk_wB, p_qi_wB, p_qr_wB, p_qB_wB, p_qC_wB, p_qL_wB, p_qE_wB, p_qA_wB, p_qW_wB, p_qn_wX, p_qs_wX, p_qk_wX, p_qi_wX, p_qr_wX, p_qB_wX, p_qC_wX, p_qL_wX, p_qE_wX, p_qA_wX, p_qW_wX, p_qn_wL, p_qs_wL, p_qk_wL, p_qi_wL, p_qr_wL, p_qB_wL, p_qC_wL, p_qL_wL, p_qE_wL, p_qA_wL, p_qW_wL, p_qn_wl, p_qs_wl, p_qk_wl, p_qi_wl, p_qr_wl, p_qB_wl, p_qC_wl, p_qL_wl, p_qE_wl, p_qA_wl, p_qW_wl, p_qn_wA, p_qs_wA, p_qk_wA, p_qi_wA, p_qr_wA, p_qB_wA, p_qC_wA, p_qL_wA, p_qE_wA, p_qA_wA, p_qW_wA, p_qn_wW, p_qs_wW, p_qk_wW, p_qi_wW, p_qr_wW, p_qB_wW, p_qC_wW, p_qL_wW, p_qE_wW, p_qA_wW, p_qW_wW, p_qn_wO, p_qs_wO, p_qk_wO, p_qi_wO, p_qr_wO, p_qB_wO, p_qC_wO, p_qL_wO, p_qE_wO, p_qA_wO, p_qW_wO, p_qn_wNB, p_qs_wNB, p_qk_wNB, p_qi_wNB, p_qr_wNB, p_qB_wNB, p_qC_wNB, p_qL_wNB, p_qE_wNB, p_qA_wNB, p_qW_wNB, p_qn_wNL, p_qs_wNL, p_qk_wNL, p_qi_wNL, p_qr_wNL, p_qB_wNL, p_qC_wNL, p_qL_wNL, p_qE_wNL, p_qA_wNL, p_qW_wNL, p_qn_wF, p_qs_wF, p_qk_wF, p_qi_wF, p_qr_wF, p_qB_wF, p_qC_wF, p_qL_wF, p_qE_wF, p_qA_wF, p_qW_wF, vup]
      simp
      omega
    · unfold CE at hCE ⊢
      rw [e1, e2]
      unfold dro
      simp only [p_qn_wI, p_qs_wI, p_qk_wI, p_qi_wI, p_qr_wI, p_qB_wI, p_qC_wI, p_qL_wI, p_qE_wI, p_qA_wI, p_qW_wI, p_qn_wR, p_qs_wR, p_qk_wR, p_qi_wR, p_qr_wR, p_qB_wR, p_qC_wR, p_qL_wR, p_qE_wR, p_qA_wR, p_qW_wR, p_qn_wB, p_qs_wB, p_qk_wB, p_qi_wB, p_qr_wB, p_qB_wB, p_qC_wB, p_qL_wB, p_qE_wB, p_qA_wB, p_qW_wB, p_qn_wX, p_qs_wX, p_qk_wX, p_qi_wX, p_qr_wX, p_qB_wX, p_qC_wX, p_qL_wX, p_qE_wX, p_qA_wX, p_qW_wX, p_qn_wL, p_qs_wL, p_qk_wL, p_qi_wL, p_qr_wL, p_qB_wL, p_qC_wL, p_qL_wL, p_qE_wL, p_qA_wL, p_qW_wL, p_qn_wl, p_qs_wl, p_qk_wl, p_qi_wl, p_qr_wl, p_qB_wl, p_qC_wl, p_qL_wl, p_qE_wl, p_qA_wl, p_qW_wl, p_qn_wA, p_qs_wA, p_qk_wA, p_qi_wA, p_qr_wA, p_qB_wA, p_qC_wA, p_qL_wA, p_qE_wA, p_qA_wA, p_qW_wA, p_qn_wW, p_qs_wW, p_qk_wW, p_qi_wW, p_qr_wW, p_qB_wW, p_qC_wW, p_qL_wW, p_qE_wW, p_qA_wW, p_qW_wW, p_qn_wO, p_qs_wO, p_qk_wO, p_qi_wO, p_qr_wO, p_qB_wO, p_qC_wO, p_qL_wO, p_qE_wO, p_qA_wO, p_qW_wO, p_qn_wNB, p_qs_wNB, p_qk_wNB, p_qi_wNB, p_qr_wNB, p_qB_wNB, p_qC_wNB, p_qL_wNB, p_qE_wNB, p_qA_wNB, p_qW_wNB, p_qn_wNL, p_qs_wNL, p_qk_wNL, p_qi_wNL, p_qr_wNL, p_qB_wNL, p_qC_wNL, p_qL_wNL, p_qE_wNL, p_qA_wNL, p_qW_wNL, p_qn_wF, p_qs_wF, p_qk_wF, p_qi_wF, p_qr_wF, p_qB_wF, p_qC_wF, p_qL_wF, p_qE_wF, p_qA_wF, p_qW_wF, vup]
      simp
      omega
  · obtain ⟨a1, a2⟩ := nodup_mv hR.2 hr
    refine ⟨fun x hx => ?_, ?_⟩
    · rw [dro_L14, dro_L15] at hx
      exact hR.1 x (a2 x hx)
    · rw [dro_L14, dro_L15]
      exact a1
theorem ok_drop {p r : Nat} {x : Int32} {k : Unit → M α} (hC : Cs n g) (hR : RI n g) (hx : x = nI p) (hr : (qL g (n + 14))[p]? = some r) (h6 : (qL g (n + 15)).length ≤ 30000) (hk : Rp n g (dro n g p r) → ok (k ()) (dro n g p r) Q) : ok (bd (X2_drop (n + 13) x) k) g Q := by
  refine ok_rlen hC (fun hl => ok_capL (cs_rs hC) (fun hl2 h15 => ok_bd ?_))
  have hp := lt_of_some hr
  have hrk := ri_at hR hr
  unfold X2_drop
  subst hx
  refine ok_itF (nI_pos (by omega)) (ok_rsz hC (ok_itF (nI_ge hp (by omega)) (ok_rs hC (ok_rl hC (ok_ck (cs_rl hC) (ok_lrem (cs_rl hC) rfl hr (ok_ck (c := 10) hrk.1 (ok_ck (c := 2) (cs_rs hC) (ok_ladd (cs_rs hC) (Or.inr (Or.inr hrk.1)) ?_ (ok_pu ?_))))))))))
  · rw [p_qL_wl, vup, if_neg (by omega)]
    exact h6
  · have := hk (dro_Rp hR hr h15)
    unfold dro at this
    rw [p_qL_wl, vup, if_neg (by omega)]
    exact this
theorem filter_er {β : Type} {q : β → Bool} {l : List β} {i : Nat} {d : β} (hl : l.length = i + 1) (hd : l[i]? = some d) : l = l.eraseIdx i ++ [d] := by
  have hne : l ≠ [] := by intro q; rw [q] at hl; cases hl
  rw [List.eraseIdx_eq_dropLast (by omega)]
  have : l.getLast hne = d := by
    rw [List.getLast_eq_getElem]
    rw [List.getElem?_eq_getElem (by omega)] at hd
    have := Option.some.inj hd
    simpa [hl] using this
  rw [← this, List.dropLast_concat_getLast]
theorem rclear_loop {Q : Unit → Gh → Prop} : ∀ (m i : Nat) (g : Gh), i < m → i ≤ 30000 → Cs n g → RI n g → (qL g (n + 14)).length = i → (qL g (n + 15)).length + i ≤ 30000 →
    (∀ g', Rp n g g' → qL g' (n + 14) = [] → (qL g' (n + 15)).length = (qL g (n + 15)).length + i → Q () g') → ok (X2_clear_b10 m (n + 13) (nI i - 1)) g Q := by
  intro m
  induction m with
  | zero => intro i g h; omega
  | succ m ih =>
    intro i g hm h3 hC hR hl h6 hq
    show ok (X2_clear_b10b (X2_clear_b10 m) (n + 13) (nI i - 1)) g Q
    unfold X2_clear_b10b
    cases i with
    | zero => exact ok_itT (by decide) (ok_pu (hq g ⟨fra_refl, acc_refl, hR⟩ (List.length_eq_zero_iff.mp hl) rfl))
    | succ i =>
      have e1 : nI (i + 1) - 1 = nI i := nI_subN (a := i + 1) (b := 1) (by omega)
      have e2 : nI i + -1 = nI i - 1 := by rw [Int32.sub_eq_add_neg]
      rw [e1, e2]
      obtain ⟨r, hr⟩ := some_of_lt (show i < (qL g (n + 14)).length by omega)
      refine ok_nz (fun hz => ok_itF (nI_pos (by omega)) (ok_ck (cs_dir hC) (ok_drop hC hR rfl hr (by omega) (fun hp => ?_))))
      have l1 : (qL (dro n g i r) (n + 14)).length = i := by rw [dro_L14, List.length_eraseIdx_of_lt (by omega)]; omega
      have l2 : (qL (dro n g i r) (n + 15)).length = (qL g (n + 15)).length + 1 := by rw [dro_L15]; simp
      refine ih i _ (by omega) (by omega) (cs_fra hC hp.1 hz) hp.2.2 l1 (by omega) (fun g' hp' h1 h2 => hq g' ⟨frR_trans hp.1 hp'.1, acc_trans hp.2.1 hp'.2.1, hp'.2.2⟩ h1 (by omega))
theorem ok_rclear {k : Unit → M α} (hC : Cs n g) (hR : RI n g) (h6 : (qL g (n + 15)).length + (qL g (n + 14)).length ≤ 30000) (hk : ∀ g', Rp n g g' → qL g' (n + 14) = [] → (qL g' (n + 15)).length = (qL g (n + 15)).length + (qL g (n + 14)).length → ok (k ()) g' Q) : ok (bd (X2_clear (n + 13)) k) g Q := by
  refine ok_bd (ok_rsz hC (ok_bpu ?_))
  have : FU = 1000000 := rfl
  exact rclear_loop FU _ g (by omega) (by omega) hC hR rfl (by omega) hk
theorem rem_loop {Q : Unit → Gh → Prop} : ∀ (m i : Nat) (g : Gh) (A B : List Nat), i < m → i ≤ 30000 → Cs n g → RI n g → qL g (n + 14) = A ++ B → A.length = i → (qL g (n + 15)).length + i ≤ 30000 →
    (∀ g', Rp n g g' → (qi g' = qi g ∧ qB g' = qB g) → qL g' (n + 14) = A.filter (fun r => decide (qi g 1003 r ≠ -1)) ++ B → (qL g' (n + 15)).length + (qL g' (n + 14)).length = (qL g (n + 15)).length + (qL g (n + 14)).length → Q () g') → ok (X2_dropRemovals_b10 m (n + 13) (nI i - 1)) g Q := by
  intro m
  induction m with
  | zero => intro i g A B h; omega
  | succ m ih =>
    intro i g A B hm h3 hC hR hAB hAl h6 hq
    show ok (X2_dropRemovals_b10b (X2_dropRemovals_b10 m) (n + 13) (nI i - 1)) g Q
    unfold X2_dropRemovals_b10b X2_dropRemovals_b37
    cases i with
    | zero =>
      have hA0 : A = [] := List.length_eq_zero_iff.mp hAl
      subst hA0
      exact ok_itT (by decide) (ok_pu (hq g ⟨fra_refl, acc_refl, hR⟩ ⟨rfl, rfl⟩ hAB rfl))
    | succ i =>
      have e1 : nI (i + 1) - 1 = nI i := nI_subN (a := i + 1) (b := 1) (by omega)
      have e2 : nI i + -1 = nI i - 1 := by rw [Int32.sub_eq_add_neg]
      rw [e1, e2]
      have hne : A ≠ [] := fun q => by rw [q] at hAl; cases hAl
      obtain ⟨A', d, hA'⟩ : ∃ A' d, A = A' ++ [d] := ⟨A.dropLast, A.getLast hne, (List.dropLast_concat_getLast hne).symm⟩
      subst hA'
      have hl' : A'.length = i := by simpa using hAl
      have hd : (qL g (n + 14))[i]? = some d := by
        rw [hAB, List.append_assoc, List.getElem?_append_right (by omega), hl', Nat.sub_self]
        rfl
      have hdk := ri_at hR hd
      refine ok_nz (fun hz => ok_itF (nI_pos (by omega)) (ok_rget hC hR rfl hd (fun _ => ok_gI hdk.1 rfl ?_)))
      by_cases h0 : qi g 1003 d = -1
      · refine ok_itF (fun q => q h0) (ok_ck (cs_dir hC) (ok_drop hC hR rfl hd (by omega) (fun hp => ?_)))
        have l14 : qL (dro n g i d) (n + 14) = A' ++ B := by
          rw [dro_L14, hAB, List.append_assoc, List.eraseIdx_append_of_length_le (by omega), hl', Nat.sub_self]
          rfl
        have l15 : (qL (dro n g i d) (n + 15)).length = (qL g (n + 15)).length + 1 := by rw [dro_L15]; simp
        refine ih i (dro n g i d) A' B (by omega) (by omega) (cs_fra hC hp.1 hz) hp.2.2 l14 hl' (by omega) (fun g' hp' hs h1 h2 => hq g' ⟨frR_trans hp.1 hp'.1, acc_trans hp.2.1 hp'.2.1, hp'.2.2⟩ hs ?_ (by rw [h2, l15, l14, hAB]; simp; omega))
        rw [h1, List.filter_append]
        simp only [List.filter_cons, List.filter_nil]
        simp [h0]
        rfl
      · refine ok_itT h0 (ih i g A' (d :: B) (by omega) (by omega) hC hR (by rw [hAB, List.append_assoc]; rfl) hl' (by omega) (fun g' hp' hs h1 h2 => hq g' hp' hs ?_ h2))
        rw [h1, List.filter_append]
        simp only [List.filter_cons, List.filter_nil]
        simp [h0]
theorem ok_dropRemovals {k : Unit → M α} (hC : Cs n g) (hR : RI n g) (h6 : (qL g (n + 15)).length + (qL g (n + 14)).length ≤ 30000) (hk : ∀ g', Rp n g g' → RV n g' = (RV n g).filter (fun r => decide (r.2.2.2.1 ≠ -1)) → (qL g' (n + 15)).length + (qL g' (n + 14)).length = (qL g (n + 15)).length + (qL g (n + 14)).length → ok (k ()) g' Q) : ok (bd (X2_dropRemovals (n + 13)) k) g Q := by
  refine ok_bd (ok_rsz hC (ok_bpu ?_))
  have : FU = 1000000 := rfl
  refine rem_loop FU _ g (qL g (n + 14)) [] (by omega) (by omega) hC hR (by simp) rfl (by omega) (fun g' hp hs h1 h2 => hk g' hp ?_ h2)
  unfold RV
  rw [h1, List.append_nil, List.filter_map]
  have : rvw g' = rvw g := by
    funext r
    unfold rvw
    rw [hs.1, hs.2]
  rw [this]
  rfl
end
