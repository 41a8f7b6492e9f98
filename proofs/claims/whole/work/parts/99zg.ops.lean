/-! the law's calls, one by one -/
/-- what a call of the law does to the picture, and what it costs in rows of files -/
def sOp (k : Nat) (a b c : Int32) (p q : Int64) (V : VC) : VC × Nat :=
  if k = 0 then (sFormat a b V).2 else if k = 1 then (sFeed a p q V).2 else if k = 2 then (sPut a V).2 else if k = 3 then (sRem V).2 else if k = 4 then (sGet V).2 else if k = 6 then (sSync V).2 else if k = 7 then (sCrash a V).2 else if k = 8 then (sOpen V).2 else if k = 9 then (sMBeg V).2 else if k = 10 then (sMStep a V).2 else if k = 11 then (sPatch a b c V).2 else if k = 16 then (sBad V).2 else (V, 0)
def Stq (V V2 : VC) (z : Nat) : Prop := ∃ k a b c p q, sOp k a b c p q V = (V2, z)
/-- what comes after a call -/
def NX (n m a3 t : Nat) (g : Gh) (V : VC) (NEXT : M Int32) (Q : Int32 → Gh → Prop) : Prop := ∀ g2 V2 S2 ps2 z, WS n m a3 (t + 1) g2 V2 S2 ps2 → Stq V V2 z → Cst n g g2 z → ok NEXT g2 Q
/-- the reference's half of a call -/
def TLX (m a3 : Nat) (refX NEXT : M Int32) (c : Int32) : M Int32 := bd (ck 12 m) (fun _ => bd refX (fun x25 => bd (ck 12 m) (fun _ => bd (X9_thrown m) (fun x26 => it (x26 = c) (it (¬ c = 0) NEXT (bd (ll a3 0) (fun x27 => it (lg_cmp x27 x25.toInt64 = 0) NEXT (pu 0)))) (pu 0)))))
section
variable {n m a3 t : Nat} {g : Gh} {S : MS} {V : VC} {ps : List AV} {Q : Int32 → Gh → Prop} {NEXT : M Int32} {K : Int32 → M Int32}
theorem ws_mono (h : WS n m a3 t g V S ps) : WS n m a3 (t + 1) g V S ps := ⟨h.1, h.2.1, h.2.2.1, relB_mono h.2.2.2 (Nat.le_succ _) (by omega)⟩
theorem pm3_0 (j : Nat) : pm3 j ≠ 0 := by unfold pm3; split <;> (try split) <;> decide
theorem pm1_0 (a : Nat) (j : Nat) : (if j = a then (1 : Int32) else 2) ≠ 0 := by split <;> decide
theorem vl_r {r : Nat ⊕ Int32} : ∀ w, r = .inr w → vl r = w := fun w e => by rw [e]; rfl
theorem put_codes {x : Int32} : ∀ j, (sPut x V).1 = .inl j → j = 0 ∨ j = 1 ∨ j = 2 := by
  intro j h
  unfold sPut at h
  dsimp only at h
  split at h
  · cases h
    exact Or.inr (Or.inl rfl)
  · split at h
    · cases h
      exact Or.inl rfl
    · split at h
      · cases h
        exact Or.inr (Or.inr rfl)
      · cases h
theorem rem_codes : ∀ j, (sRem V).1 = .inl j → j = 0 ∨ j = 1 ∨ j = 2 := by
  intro j h
  unfold sRem at h
  dsimp only at h
  split at h
  · cases h
    exact Or.inr (Or.inl rfl)
  · split at h
    · cases h
      exact Or.inl rfl
    · split at h
      · cases h
      · split at h
        · cases h
          exact Or.inr (Or.inr rfl)
        · cases h
theorem feed_codes {x : Int32} {a b : Int64} : ∀ j, (sFeed x a b V).1 = .inl j → j = 0 ∨ j = 2 := by
  intro j h
  unfold sFeed at h
  split at h
  · cases h
    exact Or.inl rfl
  · split at h
    · cases h
      exact Or.inr rfl
    · cases h
theorem get_codes : ∀ j, (sGet V).1 = .inl j → j = 1 := by
  intro j h
  unfold sGet at h
  dsimp only at h
  split at h
  · cases h
    rfl
  · split at h
    · cases h
    · split at h
      · cases h
      · split at h <;> cases h
theorem sync_codes : ∀ j, (sSync V).1 = .inl j → j = 1 := by
  intro j h
  unfold sSync at h
  split at h
  · cases h
    rfl
  · cases h
theorem bad_codes : ∀ j, (sBad V).1 = .inl j → j = 1 := by
  intro j h
  unfold sBad at h
  split at h
  · cases h
    rfl
  · cases h
theorem open_codes : ∀ j, (sOpen V).1 = .inl j → j = 1 := by
  intro j h
  unfold sOpen at h
  split at h
  · cases h
  · cases h
    rfl
theorem crash_codes {x : Int32} : ∀ j, (sCrash x V).1 = .inl j → j = 1 ∨ j = 0 := by
  intro j h
  unfold sCrash at h
  split at h
  · cases h
    exact Or.inl rfl
  · split at h
    · cases h
      exact Or.inr rfl
    · cases h
theorem mbeg_codes : ∀ j, (sMBeg V).1 = .inl j → j = 1 ∨ j = 2 := by
  intro j h
  unfold sMBeg at h
  split at h
  · cases h
    exact Or.inl rfl
  · split at h
    · cases h
    · split at h
      · cases h
        exact Or.inr rfl
      · cases h
theorem mstep_codes {x : Int32} : ∀ j, (sMStep x V).1 = .inl j → j = 1 ∨ j = 0 := by
  intro j h
  unfold sMStep at h
  split at h
  · cases h
    exact Or.inl rfl
  · split at h
    · cases h
      exact Or.inr rfl
    · cases h
theorem patch_codes {f i v : Int32} : ∀ j, (sPatch f i v V).1 = .inl j → j = 1 ∨ j = 3 := by
  intro j h
  unfold sPatch at h
  split at h
  · cases h
    exact Or.inl rfl
  · split at h
    · cases h
      exact Or.inr rfl
    · split at h
      · cases h
        exact Or.inr rfl
      · cases h
theorem s_put {x : Int32} (hw : WS n m a3 t g V S ps) (ht : t ≤ 512) (hK : ∀ c g', ok (TLX m a3 (X9_put m x) NEXT c) g' Q → ok (K c) g' Q) (hn : NX n m a3 t g V NEXT Q) : ok (bd (L_put n x a3) K) g Q := by
  have hcv := hw.2.2.1
  have hrel := hw.2.2.2
  refine s_call (r := (sPut x V).1) (V' := (sPut x V).2.1) (z := (sPut x V).2.2) (t' := t + 1) (f := Int32.toInt64) (pm := pm3) hw (fun Q8 h => ?_) (fun j hj => ?_) (fun v g' Q' => hF_long) pm3_0 (fun g' Q' hM h => r_put hM hrel ht (fun S' ps' h1 h2 => oM_pu (h S' ps' _ h1 h2 vl_r))) (fun v g' => hTL_long) hK (fun g2 S2 ps2 h1 h2 => hn g2 _ S2 ps2 _ h1 ⟨2, x, 0, 0, 0, 0, rfl⟩ h2)
  · rw [← hcv] at h
    exact c_put hw.1.1 (by rw [hcv]; exact rel_gi hrel) h
  · rcases put_codes j hj with z | z | z <;> subst z <;> rfl
theorem s_get (hw : WS n m a3 t g V S ps) (hK : ∀ c g', ok (TLX m a3 (X9_get m) NEXT c) g' Q → ok (K c) g' Q) (hn : NX n m a3 t g V NEXT Q) : ok (bd (L_get n a3) K) g Q := by
  have hcv := hw.2.2.1
  have hrel := hw.2.2.2
  refine s_call (r := (sGet V).1) (V' := (sGet V).2.1) (z := (sGet V).2.2) (t' := t) (f := Int32.toInt64) (pm := fun _ => 1) hw (fun Q8 h => ?_) (fun j hj => ?_) (fun v g' Q' => hF_long) (fun _ => by decide) (fun g' Q' hM h => r_get hM hrel (fun S' h1 h2 => oM_pu (h S' ps _ h1 h2 vl_r))) (fun v g' => hTL_long) hK (fun g2 S2 ps2 h1 h2 => hn g2 _ S2 ps2 _ (ws_mono h1) ⟨4, 0, 0, 0, 0, 0, rfl⟩ h2)
  · rw [← hcv] at h
    exact c_get hw.1.1 (by rw [hcv]; exact rel_gi hrel) (fun r hr => rel_vs hrel r (by rw [← hcv]; exact hr)) h
  · rw [get_codes j hj]
    rfl
theorem s_sync (hw : WS n m a3 t g V S ps) (hK : ∀ c g', ok (TLX m a3 (X9_sync m) NEXT c) g' Q → ok (K c) g' Q) (hn : NX n m a3 t g V NEXT Q) : ok (bd (L_sync n a3) K) g Q := by
  have hcv := hw.2.2.1
  have hrel := hw.2.2.2
  refine s_call (r := (sSync V).1) (V' := (sSync V).2.1) (z := (sSync V).2.2) (t' := t) (f := Int32.toInt64) (pm := fun _ => 1) hw (fun Q8 h => ?_) (fun j hj => ?_) (fun v g' Q' => hF_long) (fun _ => by decide) (fun g' Q' hM h => r_sync hM hrel (fun S' ps' h1 h2 => oM_pu (h S' ps' _ h1 h2 vl_r))) (fun v g' => hTL_long) hK (fun g2 S2 ps2 h1 h2 => hn g2 _ S2 ps2 _ (ws_mono h1) ⟨6, 0, 0, 0, 0, 0, rfl⟩ h2)
  · rw [← hcv] at h
    exact c_sync hw.1.1 h
  · rw [sync_codes j hj]
    rfl
theorem s_bad (hw : WS n m a3 t g V S ps) (hK : ∀ c g', ok (TLX m a3 (X9_bad m) NEXT c) g' Q → ok (K c) g' Q) (hn : NX n m a3 t g V NEXT Q) : ok (bd (L_bad n a3) K) g Q := by
  have hcv := hw.2.2.1
  have hrel := hw.2.2.2
  refine s_call (r := (sBad V).1) (V' := (sBad V).2.1) (z := (sBad V).2.2) (t' := t) (f := Int32.toInt64) (pm := fun _ => 1) hw (fun Q8 h => ?_) (fun j hj => ?_) (fun v g' Q' => hF_long) (fun _ => by decide) (fun g' Q' hM h => r_bad hM hrel (fun S' v h1 h2 h3 => oM_pu (h S' ps v h1 h2 (fun w e => ?_)))) (fun v g' => hTL_long) hK (fun g2 S2 ps2 h1 h2 => hn g2 _ S2 ps2 _ (ws_mono h1) ⟨16, 0, 0, 0, 0, 0, rfl⟩ h2)
  · rw [← hcv] at h
    exact c_bad hw.1.1 (by rw [hcv]; exact rel_gi hrel) h
  · rw [bad_codes j hj]
    rfl
  · rcases h3 with q | q
    · rw [e] at q
      cases q
    · rw [q, e]
      rfl
theorem s_open (hw : WS n m a3 t g V S ps) (ht : t ≤ 512) (hK : ∀ c g', ok (TLX m a3 (X9_open m) NEXT c) g' Q → ok (K c) g' Q) (hn : NX n m a3 t g V NEXT Q) : ok (bd (L_open n a3) K) g Q := by
  have hcv := hw.2.2.1
  have hrel := hw.2.2.2
  refine s_call (r := (sOpen V).1) (V' := (sOpen V).2.1) (z := (sOpen V).2.2) (t' := t + 1) (f := Int32.toInt64) (pm := fun _ => 1) hw (fun Q8 h => ?_) (fun j hj => ?_) (fun v g' Q' => hF_long) (fun _ => by decide) (fun g' Q' hM h => r_open hM hrel ht (fun S' ps' h1 h2 => oM_pu (h S' ps' _ h1 h2 vl_r))) (fun v g' => hTL_long) hK (fun g2 S2 ps2 h1 h2 => hn g2 _ S2 ps2 _ h1 ⟨8, 0, 0, 0, 0, 0, rfl⟩ h2)
  · rw [← hcv] at h hrel
    refine c_open hw.1.1 (fun q => rel_shut hrel q) (fun q => ?_) (fun q => open_ok hrel q) h
    have e := hrel.2.2.1.1.1
    rw [hrel.2.2.1.2 q] at e
    exact e
  · rw [open_codes j hj]
    rfl
theorem s_crash {x : Int32} (hw : WS n m a3 t g V S ps) (hK : ∀ c g', ok (TLX m a3 (X9_crash m x) NEXT c) g' Q → ok (K c) g' Q) (hn : NX n m a3 t g V NEXT Q) : ok (bd (L_crash n x a3) K) g Q := by
  have hcv := hw.2.2.1
  have hrel := hw.2.2.2
  refine s_call (r := (sCrash x V).1) (V' := (sCrash x V).2.1) (z := (sCrash x V).2.2) (t' := t + 1) (f := Int32.toInt64) (pm := fun j => if j = 1 then 1 else 2) hw (fun Q8 h => ?_) (fun j hj => ?_) (fun v g' Q' => hF_long) (pm1_0 1) (fun g' Q' hM h => r_crash hM hrel (fun S' ps' h1 h2 => oM_pu (h S' ps' _ h1 h2 vl_r))) (fun v g' => hTL_long) hK (fun g2 S2 ps2 h1 h2 => hn g2 _ S2 ps2 _ h1 ⟨7, x, 0, 0, 0, 0, rfl⟩ h2)
  · rw [← hcv] at h
    exact c_crash hw.1.1 (by rw [hcv]; exact rel_gi hrel) (fun w hw' => rel_cnt hrel w (by rw [← hcv]; exact hw')) h
  · rcases crash_codes j hj with z | z <;> subst z <;> rfl
theorem s_mergeBegin (hw : WS n m a3 t g V S ps) (hK : ∀ c g', ok (TLX m a3 (X9_mergeBegin m) NEXT c) g' Q → ok (K c) g' Q) (hn : NX n m a3 t g V NEXT Q) : ok (bd (L_mergeBegin n a3) K) g Q := by
  have hcv := hw.2.2.1
  have hrel := hw.2.2.2
  refine s_call (r := (sMBeg V).1) (V' := (sMBeg V).2.1) (z := (sMBeg V).2.2) (t' := t) (f := Int32.toInt64) (pm := fun j => if j = 1 then 1 else 2) hw (fun Q8 h => ?_) (fun j hj => ?_) (fun v g' Q' => hF_long) (pm1_0 1) (fun g' Q' hM h => r_mergeBegin hM hrel (fun S' ps' h1 h2 => oM_pu (h S' ps' _ h1 h2 vl_r))) (fun v g' => hTL_long) hK (fun g2 S2 ps2 h1 h2 => hn g2 _ S2 ps2 _ (ws_mono h1) ⟨9, 0, 0, 0, 0, 0, rfl⟩ h2)
  · rw [← hcv] at h hrel
    exact c_mergeBegin hw.1.1 (fun q => ⟨(rel_quiet hrel q).1, (rel_quiet hrel q).2.1⟩) h
  · rcases mbeg_codes j hj with z | z <;> subst z <;> rfl
theorem s_mergeStep {x : Int32} (hw : WS n m a3 t g V S ps) (ht : t ≤ 512) (hK : ∀ c g', ok (TLX m a3 (X9_mergeStep m x) NEXT c) g' Q → ok (K c) g' Q) (hn : NX n m a3 t g V NEXT Q) : ok (bd (L_mergeStep n x a3) K) g Q := by
  have hcv := hw.2.2.1
  have hrel := hw.2.2.2
  refine s_call (r := (sMStep x V).1) (V' := (sMStep x V).2.1) (z := (sMStep x V).2.2) (t' := t + 1) (f := Int32.toInt64) (pm := fun j => if j = 1 then 1 else 2) hw (fun Q8 h => ?_) (fun j hj => ?_) (fun v g' Q' => hF_long) (pm1_0 1) (fun g' Q' hM h => r_mergeStep hM hrel ht (fun S' ps' h1 h2 => oM_pu (h S' ps' _ h1 h2 vl_r))) (fun v g' => hTL_long) hK (fun g2 S2 ps2 h1 h2 => hn g2 _ S2 ps2 _ h1 ⟨10, x, 0, 0, 0, 0, rfl⟩ h2)
  · intro hp ha
    have sw := step_wants (n := x) hw.1.2.1 hrel ht ⟨hp, by rw [at_eq hw.2.1]; exact ha⟩
    rw [← hcv] at h sw
    exact c_mergeStep hw.1.1 sw.1 sw.2 h hp ha
  · rcases mstep_codes j hj with z | z <;> subst z <;> rfl
theorem s_patch {f i v : Int32} (hw : WS n m a3 t g V S ps) (hK : ∀ c g', ok (TLX m a3 (X9_patch m f i v) NEXT c) g' Q → ok (K c) g' Q) (hn : NX n m a3 t g V NEXT Q) : ok (bd (L_patch n f i v a3) K) g Q := by
  have hcv := hw.2.2.1
  have hrel := hw.2.2.2
  refine s_call (r := (sPatch f i v V).1) (V' := (sPatch f i v V).2.1) (z := (sPatch f i v V).2.2) (t' := t) (f := Int32.toInt64) (pm := fun j => if j = 1 then 1 else 2) hw (fun Q8 h => ?_) (fun j hj => ?_) (fun v g' Q' => hF_long) (pm1_0 1) (fun g' Q' hM h => r_patch hM hrel (fun S' ps' h1 h2 => oM_pu (h S' ps' _ h1 h2 vl_r))) (fun v g' => hTL_long) hK (fun g2 S2 ps2 h1 h2 => hn g2 _ S2 ps2 _ (ws_mono h1) ⟨11, f, i, v, 0, 0, rfl⟩ h2)
  · rw [← hcv] at h
    exact c_patch hw.1.1 h
  · rcases patch_codes j hj with z | z <;> subst z <;> rfl
theorem s_feed {x : Int32} {a b : Int64} (hw : WS n m a3 t g V S ps) (hK : ∀ c g', ok (TLX m a3 (X9_feed m x a b) NEXT c) g' Q → ok (K c) g' Q) (hn : NX n m a3 t g V NEXT Q) : ok (bd (L_feed n x a b a3) K) g Q := by
  have hcv := hw.2.2.1
  have hrel := hw.2.2.2
  refine s_call (r := (sFeed x a b V).1) (V' := (sFeed x a b V).2.1) (z := (sFeed x a b V).2.2) (t' := t) (f := Int32.toInt64) (pm := fun j => if j = 0 then 1 else 2) hw (fun Q8 h => ?_) (fun j hj => ?_) (fun v g' Q' => hF_long) (pm1_0 0) (fun g' Q' hM h => r_feed hM hrel (fun S' h1 h2 => oM_pu (h S' ps _ h1 h2 vl_r))) (fun v g' => hTL_long) hK (fun g2 S2 ps2 h1 h2 => hn g2 _ S2 ps2 _ (ws_mono h1) ⟨1, x, 0, 0, a, b, rfl⟩ h2)
  · rw [← hcv] at h
    refine c_feed hw.1.1 ?_ h
    have := hrel.2.1.2.2.2.2.2.1.2.1
    rw [← hcv] at this
    exact this
  · rcases feed_codes j hj with z | z <;> subst z <;> rfl
end
