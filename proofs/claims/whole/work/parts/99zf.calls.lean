/-! a call of the law: the class's, then the reference's -/
def endG (f : Int32 → Int64) (r : Nat ⊕ Int32) (g : Gh) (a3 : Nat) : Gh := match r with
  | .inl _ => wE g
  | .inr v => wW g a3 [f v]
/-- what a call cost -/
def Cst (n : Nat) (g g' : Gh) (z : Nat) : Prop := (qs g' + rsum n g ≤ qs g + rsum n g' + z + 6 ∧ 16 * qn g' + qs g + 16 * ccnt n g ≤ 16 * qn g + qs g' + 16 * ccnt n g' + 16) ∧ (CE n g → CE n g')
section
variable {n m a3 t : Nat} {g g1 g2 : Gh} {S : MS} {V V' : VC} {ps : List AV} {Q : Int32 → Gh → Prop}
theorem set_one {l : List Int64} {v : Int64} (h : l.length = 1) : l.set 0 v = [v] := by
  cases l with
  | nil => cases h
  | cons x l =>
    cases l with
    | nil => rfl
    | cons y l => simp at h
/-- what the rest of a call needs of the heap -/
def Mid (n m a3 : Nat) (g : Gh) (S : MS) (V : VC) : Prop := CI n g ∧ Mk m g ∧ qk g a3 = 23 ∧ (qW g a3).length = 1 ∧ At m g S ∧ CV n g = V
theorem endG_ok {f : Int32 → Int64} {r : Nat ⊕ Int32} (h : Mid n m a3 g1 S V) : Mid n m a3 (endG f r g1 a3) S V ∧ (∀ v, r = .inr v → (qW (endG f r g1 a3) a3)[0]? = some (f v)) ∧ (qs (endG f r g1 a3) ≤ qs g1 + 6 ∧ 16 * qn (endG f r g1 a3) + qs g1 ≤ 16 * qn g1 + qs (endG f r g1 a3) + 16) ∧ rsum n (endG f r g1 a3) = rsum n g1 ∧ ccnt n (endG f r g1 a3) = ccnt n g1 ∧ (CE n g1 → CE n (endG f r g1 a3)) := by
  obtain ⟨h1, h2, h5, h6, h7, h8⟩ := h
  cases r with
  | inl j => exact ⟨⟨h1, h2, h5, h6, h7, h8⟩, fun v q => (by cases q), ⟨Nat.le_refl _, by show 16 * (qn g1 + 1) + qs g1 ≤ 16 * qn g1 + (qs g1 + 6) + 16; omega⟩, rfl, rfl, fun h => h⟩
  | inr v =>
    have e : qW (endG f (.inr v) g1 a3) a3 = [f v] := if_pos rfl
    refine ⟨⟨h1, h2, h5, by rw [e]; rfl, h7, h8⟩, fun w q => ?_, ⟨Nat.le_add_right _ _, by show 16 * qn g1 + qs g1 ≤ 16 * qn g1 + qs g1 + 16; omega⟩, rfl, rfl, fun h => h⟩
    cases q
    rw [e]
    rfl
/-- the reference's call and the compare of what was thrown -/
theorem ref_call {β : Type} {P : β → Prop} {t' : Nat} {c : Int32} {refX : M β} {T : β → M Int32} (hm : Mid n m a3 g2 S V') (hn : n + 22 ≤ m) (hm3 : m + 27 ≤ a3)
    (href : ∀ (Q' : β → MS → Prop), (∀ S' ps' v, Rel t' V' S' ps' → S'.1 0 = c → P v → Q' v S') → okM m g2 (bd refX (fun v => pu v)) S Q')
    (hT : ∀ S' ps' v, WS n m a3 t' (mset g2 m S') V' S' ps' → P v → ok (T v) (mset g2 m S') Q) : ok (bd (ck 12 m) (fun _ => bd refX (fun v => bd (ck 12 m) (fun _ => bd (X9_thrown m) (fun x => it (x = c) (T v) (pu 0)))))) g2 Q := by
  obtain ⟨h1, h2, h5, h6, h7, h8⟩ := hm
  refine ok_ck h2.2.1 (to_ref h7 (href _ (fun S' ps' v hr h0 hv => ?_)))
  refine ok_ck h2.2.1 (to_ref at_mset (oM_bd ?_))
  unfold X9_thrown
  refine oM_gI (mk_mset h2) (oM_pu (oM_pu ?_))
  rw [mset_idem, h0]
  exact ok_itT rfl (hT S' ps' v (ws_both h1 h2 hn hm3 h5 h6 h8 hr) hv)
/-- a call with a long -/
theorem s_call {r : Nat ⊕ Int32} {f : Int32 → Int64} {z t' : Nat} {pm : Nat → Int32} {x8 : M (Nat ⊕ Int32)} {H : Nat → M Int32} {F : Int32 → M Int32} {refX NEXT : M Int32} {TL K : Int32 → M Int32} (hw : WS n m a3 t g V S ps)
    (h8 : ∀ Q8 : Nat ⊕ Int32 → Gh → Prop, (∀ g1, Cp n g g1 z → CV n g1 = V' → Q8 r (fin r g1)) → ok x8 g Q8)
    (hH : ∀ j, r = .inl j → H j = pu (pm j))
    (hF : ∀ v g' (Q' : Int32 → Gh → Prop), qk g' a3 = 23 → (qW g' a3).length = 1 → Q' 0 (wW g' a3 [f v]) → ok (F v) g' Q')
    (hpm : ∀ j, pm j ≠ 0)
    (href : ∀ (g' : Gh) (Q' : Int32 → MS → Prop), Mk m g' → (∀ S' ps' v, Rel t' V' S' ps' → S'.1 0 = th2 pm r → (∀ w, r = .inr w → v = w) → Q' v S') → okM m g' (bd refX (fun v => pu v)) S Q')
    (hTL : ∀ v g', qk g' a3 = 23 → (qW g' a3)[0]? = some (f v) → ok NEXT g' Q → ok (TL v) g' Q)
    (hK : ∀ c g', ok (bd (ck 12 m) (fun _ => bd refX (fun x25 => bd (ck 12 m) (fun _ => bd (X9_thrown m) (fun x26 => it (x26 = c) (it (¬ c = 0) NEXT (TL x25)) (pu 0)))))) g' Q → ok (K c) g' Q)
    (hnext : ∀ g2 S2 ps2, WS n m a3 t' g2 V' S2 ps2 → Cst n g g2 z → ok NEXT g2 Q) : ok (bd (bd (ck 11 n) (fun _ => bd x8 (fun w => cs w H F))) K) g Q := by
  refine ok_zz (fun hz => ok_bd (ok_ck (cs_x (ci_C hw.1.1)) (ok_bd (h8 _ (fun g1 p e => ?_)))))
  obtain ⟨c1, c2, c3, c4, c5⟩ := ws_class hw hz p
  obtain ⟨d1, d7, d8, d9, d10, d11⟩ := endG_ok (f := f) (r := r) ⟨c1, c2, c3, c4, c5, e⟩
  have hk : ok (K (th2 pm r)) (endG f r g1 a3) Q := by
    refine hK _ _ (ref_call d1 hw.1.2.2.1 hw.1.2.2.2.1 (href _ · d1.2.1) (fun S' ps' v hws hv => ?_))
    have hcst : Cst n g (mset (endG f r g1 a3) m S') z := by
      have e1 : rsum n (mset (endG f r g1 a3) m S') = rsum n g1 := d9
      have e2 : ccnt n (mset (endG f r g1 a3) m S') = ccnt n g1 := d10
      have e3 : qs (mset (endG f r g1 a3) m S') = qs (endG f r g1 a3) := rfl
      have e4 : qn (mset (endG f r g1 a3) m S') = qn (endG f r g1 a3) := rfl
      have := p.2.1
      refine ⟨?_, fun q => d11 (this.2 q)⟩
      have := this.1
      unfold acc2 at this
      rw [e1, e2, e3, e4]
      omega
    have nx := hnext _ S' ps' hws hcst
    cases r with
    | inl j => exact ok_itT (hpm j) nx
    | inr w =>
      rw [hv w rfl]
      exact ok_itF (fun q => q rfl) (hTL w _ d1.2.2.1 (d7 w rfl) nx)
  cases r with
  | inl j =>
    show ok (H j) (wE g1) _
    rw [hH j rfl]
    exact ok_pu hk
  | inr v => exact hF v g1 _ c3 c4 hk
theorem hF_long {v : Int32} {g' : Gh} {Q' : Int32 → Gh → Prop} (q1 : qk g' a3 = 23) (q2 : (qW g' a3).length = 1) (h : Q' 0 (wW g' a3 [v.toInt64])) : ok (bd (lz a3 0 v.toInt64) (fun _ => pu 0)) g' Q' := by
  refine ok_lz (i := 0) q1 rfl (by rw [q2]; decide) ?_
  rw [set_one q2]
  exact ok_pu h
theorem hTL_long {v : Int32} {g' : Gh} {NEXT : M Int32} (q1 : qk g' a3 = 23) (q2 : (qW g' a3)[0]? = some v.toInt64) (h : ok NEXT g' Q) : ok (bd (ll a3 0) (fun x27 => it (lg_cmp x27 v.toInt64 = 0) NEXT (pu 0))) g' Q := ok_ll (i := 0) q1 rfl q2 (ok_itT ((lg_cmp_eq _ _).mpr rfl) h)
/-- a call that only answers -/
theorem s_looker {c : Int32} {x8 refX NEXT : M Int32} {K : Int32 → M Int32} (hw : WS n m a3 t g V S ps) (h8 : ∀ (k : Int32 → M Int32), ok (k c) g Q → ok (bd x8 k) g Q)
    (href : ∀ (Q' : Int32 → MS → Prop), (∀ S', Rel t V S' ps → Q' c S') → okM m g (bd refX (fun v => pu v)) S Q')
    (hK : ok (bd (ck 12 m) (fun _ => bd refX (fun x39 => it (c = x39) NEXT (pu 0)))) g Q → ok (K c) g Q)
    (hnext : ∀ g2 S2 ps2, WS n m a3 t g2 V S2 ps2 → Cst n g g2 0 → ok NEXT g2 Q) : ok (bd (ck 11 n) (fun _ => bd x8 K)) g Q := by
  refine ok_ck (cs_x (ci_C hw.1.1)) (h8 K (hK ?_))
  obtain ⟨⟨h1, h2, h3, h4, h5, h6⟩, h7, h8, h9⟩ := hw
  refine ok_ck h2.2.1 (to_ref h7 (href _ (fun S' hr => ok_itT rfl (hnext _ S' ps (ws_both h1 h2 h3 h4 h5 h6 h8 hr) ?_))))
  have e1 : rsum n (mset g m S') = rsum n g := rfl
  have e2 : ccnt n (mset g m S') = ccnt n g := rfl
  have e3 : qs (mset g m S') = qs g := rfl
  have e4 : qn (mset g m S') = qn g := rfl
  refine ⟨?_, fun h => h⟩
  rw [e1, e2, e3, e4]
  omega
/-- the arrivals' counts -/
theorem col_cnt : ∀ (ps l : List AV) (B : Nat), (∀ p, p ∈ ps → p.2.2 = nI p.2.2.toNatClampNeg) → (∀ w, w ∈ l → ∃ k, w.2.2 = nI k ∧ k ≤ B) → ∀ w, w ∈ ps.foldl (fun l p => noteA p.1 p.2.1 p.2.2 l) l → ∃ k, w.2.2 = nI k ∧ k ≤ B + ptot ps := by
  intro ps
  induction ps with
  | nil => exact fun l B _ h2 w hw => h2 w hw
  | cons p ps ih =>
    intro l B h1 h2 w hw
    have hp := h1 p List.mem_cons_self
    have : ∃ k, w.2.2 = nI k ∧ k ≤ (B + p.2.2.toNatClampNeg) + ptot ps := by
      refine ih (noteA p.1 p.2.1 p.2.2 l) _ (fun q hq => h1 q (List.mem_cons_of_mem _ hq)) (fun v hv => ?_) w hw
      have old : ∀ v, v ∈ l → ∃ k, v.2.2 = nI k ∧ k ≤ B + p.2.2.toNatClampNeg := fun v hv => by
        obtain ⟨k, k1, k2⟩ := h2 v hv
        exact ⟨k, k1, by omega⟩
      unfold noteA at hv
      split at hv
      · rcases List.mem_append.mp hv with q | q
        · exact old v q
        · rw [List.mem_singleton] at q
          rw [q]
          exact ⟨_, hp, by omega⟩
      · rename_i u hu
        split at hv
        · rcases List.mem_append.mp hv with q | q
          · exact old v (List.dropLast_subset _ q)
          · rw [List.mem_singleton] at q
            obtain ⟨k, k1, k2⟩ := h2 u (List.mem_of_getLast? hu)
            rw [q]
            refine ⟨k + p.2.2.toNatClampNeg, ?_, by omega⟩
            show u.2.2 + p.2.2 = _
            rw [k1, ← nI_add, ← hp]
        · rcases List.mem_append.mp hv with q | q
          · exact old v q
          · rw [List.mem_singleton] at q
            rw [q]
            exact ⟨_, hp, by omega⟩
    obtain ⟨k, k1, k2⟩ := this
    exact ⟨k, k1, by show k ≤ B + (p.2.2.toNatClampNeg + ptot ps); omega⟩
theorem rel_cnt (h : Rel t V S ps) : ∀ w, w ∈ V.1.2.2.1 → ¬ w.2.2 < 0 := by
  intro w hw
  rw [h.2.2.1.1.1] at hw
  obtain ⟨k, k1, k2⟩ := col_cnt ps [] 0 (fun p hp => (h.2.2.1.1.2.1.1 p hp).1.1) (fun w hw => by cases hw) w hw
  have h1 := (pcs_tot h.1.1.1 h.2.2.1.1.2.1).1
  have h2 := h.1.1.2.2.2.2.1
  have h3 := h.1.1.2.2.2.1.2.1
  rw [k1, Int32.lt_iff_toInt_lt, nI_toInt (by omega)]
  show ¬ (k : Int) < 0
  omega
theorem rel_vs (h : Rel t V S ps) : ∀ r, r ∈ V.2.1 → ¬ r.2.2.2.1 < 0 := by
  intro r hr
  obtain ⟨_, x, P, W, _, _, h3, h4, _⟩ := h.1.2.1.2.1 r hr
  rw [h3, Int32.lt_iff_toInt_lt, nI_toInt (by omega)]
  show ¬ (W : Int) < 0
  omega
end
