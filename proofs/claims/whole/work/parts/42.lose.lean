/-! the last bytes that came are lost -/
def cut1 (m : Nat) (l : List Int32) : List Int32 := if m ≤ l.length then l.take (l.length - m) else l
def cutF (a b : Int32) (m : Nat) (fs : List AF) : List AF := fs.map (fun f => if f.1 = a ∧ f.2.1 = b then (f.1, f.2.1, cut1 m f.2.2.1, f.2.2.2.1, f.2.2.2.2) else f)
def losR : Nat → List AV → List AF → List AF
  | _, [], fs => fs
  | left, w :: l, fs => if left = 0 then fs else losR (left - min left w.2.2.toNatClampNeg) l (cutF w.1 w.2.1 (min left w.2.2.toNatClampNeg) fs)
theorem nI_subN {a b : Nat} (h : b ≤ a) : nI a - nI b = nI (a - b) := by
  have := nI_add (a - b) b
  rw [show a - b + b = a by omega] at this
  rw [← this, Int32.add_sub_cancel]
theorem losR_0 : ∀ (l : List AV) (fs : List AF), losR 0 l fs = fs
  | [], _ => rfl
  | _ :: _, _ => if_pos rfl
theorem losR_cons {left : Nat} {w : AV} {l : List AV} {fs : List AF} : losR left (w :: l) fs = if left = 0 then fs else losR (left - min left w.2.2.toNatClampNeg) l (cutF w.1 w.2.1 (min left w.2.2.toNatClampNeg) fs) := rfl
theorem nI_subI {a b : Nat} (ha : a < 2 ^ 31) (hb : b < 2 ^ 31) : (nI a - nI b).toInt = (a : Int) - (b : Int) := by
  rw [Int32.toInt_sub, nI_toInt ha, nI_toInt hb]
  exact Int.bmod_eq_of_le (by omega) (by omega)
theorem ok_lenB {α : Type} {g : Gh} {Q : α → Gh → Prop} {b : Nat} {x : M α} (hk : qk g b = 5) (hx : (qB g b).length ≤ 60000 → ok x g Q) : ok x g Q := by
  intro h ha
  refine hx ?_ h ha
  obtain ⟨w, A⟩ := ha
  obtain ⟨r, b1, b2, b3, b4, b5, b6, b7, b8', b9, b10, b11⟩ := A.2.2.2.1 b hk
  omega
section
variable {n : Nat} {α : Type}
def L1 (n : Nat) (g g' : Gh) : Prop := Dp n g g' 0 ∧ qL g' = qL g ∧ qi g' = qi g ∧ qr g' = qr g ∧ qC g' = qC g
theorem ok_cutm {g : Gh} {Q : α → Gh → Prop} {b m : Nat} {x : Int32} {k : Unit → M α} (hk : qk g b = 5) (hx : x = nI (qB g b).length - nI m) (hm : m < 2 ^ 31) (hq : ok (k ()) (wX g b (cut1 m (qB g b))) Q) : ok (bd (X1_cutTo b x) k) g Q := by
  unfold cut1 at hq
  intro h ha
  have hl : (qB g b).length ≤ 60000 := by
    obtain ⟨w, A⟩ := ha
    obtain ⟨r, b1, b2, b3, b4, b5, b6, b7, b8', b9, b10, b11⟩ := A.2.2.2.1 b hk
    omega
  by_cases hc : m ≤ (qB g b).length
  · rw [if_pos hc] at hq
    exact ok_bcut hk (hx.trans (nI_subN hc)) (by omega) hq h ha
  · rw [if_neg hc, wX_id] at hq
    have hneg : x < 0 := by
      rw [hx, Int32.lt_iff_toInt_lt, nI_subI (by omega) hm, Int32.toInt_zero]
      omega
    refine (ok_bd ?_ : ok (bd (X1_cutTo b x) k) g Q) h ha
    unfold X1_cutTo
    exact ok_itT hneg (ok_pu hq)
theorem ok_lose {g : Gh} {Q : α → Gh → Prop} {v d m : Nat} {k : Unit → M α} (kv : qk g v = 4) (hd : qr g 300 v = d) (hd0 : d ≠ 0) (hdk : dOk n g d) (hm : m < 2 ^ 31) (hq : ok (k ()) (wX g (d + 1) (cut1 m (qB g (d + 1)))) Q) : ok (bd (X0_lose v (nI m)) k) g Q := by
  refine ok_bd ?_
  unfold X0_lose
  exact ok_gR (c := 3) kv hd hd0 (ok_gR (c := 3) kv hd hd0 (ok_dby hdk (ok_gR (c := 3) kv hd hd0 (ok_dby hdk (ok_ck hdk.2.2.1 (ok_bsize hdk.2.2.1 (ok_ck hdk.2.2.1 (ok_cutm hdk.2.2.1 rfl hm (ok_pu hq)))))))))
theorem srt_ids {g g' : Gh} (h : SrtF (FV n g)) (hL : qL g' = qL g) (hi : qi g' = qi g) : SrtF (FV n g') := by
  unfold SrtF FV at *
  rw [List.pairwise_map] at *
  rw [hL]
  unfold fvw at *
  rw [hi]
  exact h
theorem lose1 {Q : Unit → Gh → Prop} : ∀ (m i left : Nat) (g : Gh), i < m → Cs n g → DI n g → AvI n g → SrtF (FV n g) → i ≤ acn n g → acn n g < 30000 → (∀ v, v ∈ (qL g (n + 12)).take (acn n g) → ∃ c, qi g 301 v = nI c ∧ c < 2 ^ 31) → left < 2 ^ 31 → (∀ g', L1 n g g' → FV n g' = losR left ((AIV n g).take i).reverse (FV n g) → ok (X3_loseLast_b58 (n + 9)) g' Q) → ok (X3_loseLast_b9 m (n + 9) (nI left) (nI i - 1)) g Q := by
  intro m
  induction m with
  | zero => intro i left g h; omega
  | succ m ih =>
    intro i left g hm hC hD hA hS hi h3 hcs hlf hq
    show ok (X3_loseLast_b9b (X3_loseLast_b9 m) (n + 9) (nI left) (nI i - 1)) g Q
    unfold X3_loseLast_b9b X3_loseLast_b52
    have stop : losR left ((AIV n g).take i).reverse (FV n g) = FV n g → ok (X3_loseLast_b58 (n + 9)) g Q := fun e => hq g ⟨⟨fra_refl, acc_refl, hD⟩, rfl, rfl, rfl, rfl⟩ e.symm
    cases i with
    | zero => exact ok_itT (by decide) (stop rfl)
    | succ i =>
      have e1 : nI (i + 1) - 1 = nI i := by rw [← nI_1, Int32.add_sub_cancel]
      rw [e1]
      refine ok_itF (nI_pos (by omega)) ?_
      by_cases h0 : left = 0
      · subst h0
        exact ok_itT (by decide) (stop (losR_0 _ _))
      · refine ok_itF (nI_ge (a := 0) (b := left) (by omega) hlf) ?_
        have h8 := hA.2.1
        obtain ⟨v, hv⟩ := some_of_lt (show i < (qL g (n + 12)).length by omega)
        have hvt : v ∈ (qL g (n + 12)).take (acn n g) := by
          rw [List.mem_iff_getElem?]
          exact ⟨i, by rw [List.getElem?_take, if_pos (by omega)]; exact hv⟩
        have hvm := List.mem_of_getElem? hv
        have kv := hA.2.2.1 v hvm
        obtain ⟨c, hc, hc2⟩ := hcs v hvt
        have hf := hA.2.2.2.2 v hvt
        generalize hd : qr g 300 v = d at hf
        obtain ⟨p, hp⟩ := List.mem_iff_getElem?.mp hf
        have hdk := di_at hD hp
        have hd0 : d ≠ 0 := by have := hdk.2.2.2; omega
        refine ok_capL (cs_av hC) (fun h60 _ => ok_ck (cs_disk hC) (ok_arrS hC rfl hv kv (by omega) ?_))
        refine ok_gI (c := 3) kv hc (ok_bpu ?_)
        rw [imn_nI hlf hc2]
        refine ok_ck (c := 3) kv (ok_lose kv hd hd0 hdk (by omega) (ok_bpu ?_))
        rw [nI_subN (Nat.min_le_left _ _)]
        have e2 : nI i + -1 = nI i - 1 := by rw [Int32.sub_eq_add_neg]
        rw [e2]
        generalize hg1 : wX g (d + 1) (cut1 (min left c) (qB g (d + 1))) = g1
        have L : L1 n g g1 := by
          rw [← hg1]
          exact ⟨⟨fra_wX (Or.inr (Or.inr (Or.inl ⟨hdk.2.2.1, hdk.1⟩))), ⟨⟨Nat.le_refl _, Nat.le_refl _⟩, fun h => h⟩, hD⟩, rfl, rfl, rfl, rfl⟩
        have hfv : FV n g1 = cutF (qi g 701 d) (qi g 702 d) (min left c) (FV n g) := by
          unfold cutF FV
          rw [List.map_map, L.2.1]
          apply List.map_congr_left
          intro x hx
          show fvw g1 x = if qi g 701 x = qi g 701 d ∧ qi g 702 x = qi g 702 d then _ else _
          by_cases ex : x = d
          · subst ex
            rw [if_pos ⟨rfl, rfl⟩, ← hg1]
            unfold fvw
            rw [p_qB_wX, vu_eq]
            rfl
          · rw [if_neg (fun q => ex (id_inj hS hx (List.mem_of_getElem? hp) q.1 q.2)), ← hg1]
            unfold fvw
            rw [p_qB_wX, vu_ne (by omega)]
            rfl
        obtain ⟨L0, L2, L3, L4, L5⟩ := L
        have hac : acn n g1 = acn n g := by unfold acn; rw [L3]
        have haiv : AIV n g1 = AIV n g := by
          unfold AIV avw
          rw [hac, L2, L3, L4]
        have hC1 : Cs n g1 := by rw [← hg1]; exact hC
        have hk1 : qk g1 = qk g := by rw [← hg1]; rfl
        refine ih i (left - min left c) g1 (by omega) hC1 L0.2.2 ?_ (srt_ids hS L2 L3) (by omega) (by omega) (by rw [hac, L2, L3]; exact hcs) (by omega) ?_
        · refine ⟨by rw [L3, hac]; exact hA.1, by rw [hac, L2]; exact hA.2.1, by rw [L2, hk1]; exact hA.2.2.1, by rw [L2]; exact hA.2.2.2.1, by rw [hac, L2, L4]; exact hA.2.2.2.2⟩
        · intro g' l1 e5
          refine hq g' ⟨⟨frD_trans L0.1 l1.1.1, acc_trans L0.2.1 l1.1.2.1, l1.1.2.2⟩, l1.2.1.trans L2, l1.2.2.1.trans L3, l1.2.2.2.1.trans L4, l1.2.2.2.2.trans L5⟩ ?_
          rw [e5, haiv, hfv]
          have e6 : ((AIV n g).take (i + 1)).reverse = avw g v :: ((AIV n g).take i).reverse := by
            have : (AIV n g)[i]? = some (avw g v) := by
              unfold AIV
              rw [List.getElem?_map, List.getElem?_take, if_pos (by omega), hv]
              rfl
            rw [take_snoc this, List.reverse_append]
            rfl
          rw [e6, losR_cons, if_neg h0]
          have e7 : (avw g v).2.2.toNatClampNeg = c := by
            show (qi g 301 v).toNatClampNeg = c
            rw [hc, nI_clamp hc2]
          have e8 : (avw g v).1 = qi g 701 d ∧ (avw g v).2.1 = qi g 702 d := by
            unfold avw
            rw [hd]
            exact ⟨rfl, rfl⟩
          rw [e7, e8.1, e8.2]
def L2 (n : Nat) (g g' : Gh) : Prop := Dp n g g' 0 ∧ qi g' = qi g ∧ qr g' = qr g ∧ qB g' = qB g ∧ qC g' = qC g ∧ qk g' = qk g ∧ qL g' (n + 12) = qL g (n + 12)
def neB (g : Gh) (d : Nat) : Bool := decide ((qB g (d + 1)).length ≠ 0)
theorem lose2 {Q : Unit → Gh → Prop} : ∀ (m i : Nat) (g : Gh) (A B : List Nat), i < m → i ≤ 30000 → Cs n g → DI n g → qL g (n + 10) = A ++ B → A.length = i → (qL g (n + 11)).length + i ≤ 30000 →
    (∀ g', L2 n g g' → qL g' (n + 10) = A.filter (neB g) ++ B → SV n g' = SV n g ++ (A.reverse.filter (fun d => !neB g d)).map (fun d => qC g (d + 1)) → Q () g') → ok (X3_loseLast_b68 m (n + 9) (nI i - 1)) g Q := by
  intro m
  induction m with
  | zero => intro i g A B h; omega
  | succ m ih =>
    intro i g A B hm h3 hC hD hAB hAl h6 hq
    show ok (X3_loseLast_b68b (X3_loseLast_b68 m) (n + 9) (nI i - 1)) g Q
    unfold X3_loseLast_b68b X3_loseLast_b97
    cases i with
    | zero =>
      have hA0 : A = [] := List.length_eq_zero_iff.mp hAl
      subst hA0
      exact ok_itT (by decide) (ok_pu (hq g ⟨⟨fra_refl, acc_refl, hD⟩, rfl, rfl, rfl, rfl, rfl, rfl⟩ hAB (by simp)))
    | succ i =>
      have e1 : nI (i + 1) - 1 = nI i := by rw [← nI_1, Int32.add_sub_cancel]
      have e2 : nI i + -1 = nI i - 1 := by rw [Int32.sub_eq_add_neg]
      rw [e1, e2]
      have hne : A ≠ [] := fun q => by rw [q] at hAl; cases hAl
      obtain ⟨A', d, hA'⟩ : ∃ A' d, A = A' ++ [d] := ⟨A.dropLast, A.getLast hne, (List.dropLast_concat_getLast hne).symm⟩
      subst hA'
      have hl' : A'.length = i := by simpa using hAl
      have hd : (qL g (n + 10))[i]? = some d := by
        rw [hAB, List.append_assoc, List.getElem?_append_right (by omega), hl', Nat.sub_self]
        rfl
      have hdk := di_at hD hd
      refine ok_nz (fun hz => ok_itF (nI_pos (by omega)) (ok_fget hC hD rfl hd (fun _ => ok_dbs hdk ?_)))
      by_cases h0 : (qB g (d + 1)).length = 0
      · have en : neB g d = false := by unfold neB; simp [h0]
        rw [h0]
        refine ok_itF (fun q => q rfl) (ok_ck (cs_disk hC) (ok_discardAt hC hD rfl hd (by omega) (fun hp => ?_)))
        have l10 : qL (dsc n g i d) (n + 10) = A' ++ B := by
          rw [dsc_L10, hAB, List.append_assoc, List.eraseIdx_append_of_length_le (by omega), hl', Nat.sub_self]
          rfl
        refine ih i (dsc n g i d) A' B (by omega) (by omega) (cs_fra hC hp.1 hz) hp.2.2 l10 hl' (by rw [dsc_L11]; simp; omega) (fun g' l2 h1 h2 => hq g' ⟨⟨frD_trans hp.1 l2.1.1, acc_trans hp.2.1 l2.1.2.1, l2.1.2.2⟩, l2.2.1, l2.2.2.1, l2.2.2.2.1, l2.2.2.2.2.1, l2.2.2.2.2.2.1, l2.2.2.2.2.2.2.trans dsc_L12⟩ ?_ ?_)
        · rw [h1, List.filter_append]
          simp only [List.filter_cons, en, List.filter_nil]
          simp
          rfl
        · rw [h2, dsc_SV, List.reverse_append, List.append_assoc]
          simp only [List.reverse_cons, List.reverse_nil, List.nil_append, List.cons_append, List.filter_cons, en]
          rfl
      · have en : neB g d = true := by unfold neB; simp [h0]
        refine ok_lenB hdk.2.2.1 (fun hl60 => ok_itT (nI_ne0 (by omega) (by omega)) (ih i g A' (d :: B) (by omega) (by omega) hC hD (by rw [hAB, List.append_assoc]; rfl) hl' (by omega) (fun g' l2 h1 h2 => hq g' l2 ?_ ?_)))
        · rw [h1, List.filter_append]
          simp only [List.filter_cons, en, List.filter_nil]
          simp
        · rw [h2, List.reverse_append]
          simp only [List.reverse_cons, List.reverse_nil, List.nil_append, List.cons_append, List.filter_cons, en]
          rfl
/-- behind loseLast: those that are left, the others among the spares -/
def losF (left : Nat) (n : Nat) (g : Gh) : List AF := losR left (AIV n g).reverse (FV n g)
def neF (f : AF) : Bool := decide (f.2.2.1.length ≠ 0)
theorem ok_loseLast {g : Gh} {Q : α → Gh → Prop} {left : Nat} {x : Int32} {k : Unit → M α} (hC : Cs n g) (hD : DI n g) (hA : AvI n g) (hS : SrtF (FV n g)) (hx : x = nI left) (hlf : left < 2 ^ 31) (h12 : acn n g < 30000) (h6 : (qL g (n + 11)).length + (qL g (n + 10)).length ≤ 30000) (hcs : ∀ w, w ∈ AIV n g → ¬ w.2.2 < 0)
    (hk : ∀ g', Dp n g g' 0 → (∀ v, v ∈ qL g (n + 12) → qk g' v = 4) → qL g' (n + 12) = qL g (n + 12) → DSC n g' = DSC n g → FV n g' = (losF left n g).filter neF → SV n g' = SV n g ++ ((losF left n g).reverse.filter (fun f => !neF f)).map (fun f => f.2.2.2.1) → ok (k ()) g' Q) : ok (bd (X3_loseLast (n + 9) x) k) g Q := by
  subst hx
  refine ok_nz (fun hz => ok_bd ?_)
  unfold X3_loseLast
  have : FU = 1000000 := rfl
  refine ok_gI (cs_disk hC) hA.1 (ok_bpu (lose1 FU (acn n g) left g (by omega) hC hD hA hS (Nat.le_refl _) h12 (fun v hv => ?_) hlf (fun g1 l1 e1 => ?_)))
  · have := hcs (avw g v) (List.mem_map.mpr ⟨v, hv, rfl⟩)
    exact ⟨_, nI_cl this, clamp_lt _⟩
  · have e2 : (AIV n g).take (acn n g) = AIV n g := List.take_of_length_le (by unfold AIV; rw [List.length_map, List.length_take]; omega)
    rw [e2] at e1
    have hC1 := cs_fra hC l1.1.1 hz
    unfold X3_loseLast_b58
    refine ok_fsz hC1 (ok_bpu ?_)
    obtain ⟨m1, m2, m3, m4, m5⟩ := l1
    refine lose2 FU (qL g1 (n + 10)).length g1 (qL g1 (n + 10)) [] (by rw [m2]; omega) (by rw [m2]; omega) hC1 m1.2.2 (by simp) rfl (by rw [m2]; omega) (fun g' l2 h1 h2 => hk g' ⟨frD_trans m1.1 l2.1.1, acc_trans m1.2.1 l2.1.2.1, l2.1.2.2⟩ ?_ ?_ ?_ ?_ ?_)
    · intro v hv
      rw [l2.2.2.2.2.2.1]
      exact fra_k m1.1 hz (hA.2.2.1 v hv) (by decide)
    · rw [l2.2.2.2.2.2.2, m2]
    · unfold DSC
      rw [l2.2.1, m3]
    · unfold losF
      rw [← e1]
      unfold FV
      rw [h1, List.append_nil, List.filter_map]
      have : fvw g' = fvw g1 := by
        funext d
        unfold fvw
        rw [l2.2.1, l2.2.2.2.1, l2.2.2.2.2.1]
      rw [this]
      rfl
    · rw [h2]
      unfold losF
      rw [← e1]
      unfold SV FV
      rw [← List.map_reverse, List.filter_map, List.map_map, m2, ← m5]
      rfl
end
