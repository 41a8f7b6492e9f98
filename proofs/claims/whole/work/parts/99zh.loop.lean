/-! the law's calls, the rest, and its loop -/
section
variable {n m a3 t : Nat} {g : Gh} {S : MS} {V : VC} {ps : List AV} {Q : Int32 → Gh → Prop} {NEXT : M Int32} {K : Int32 → M Int32}
theorem ok_sx {xs : Nat → Int32} {L : Nat} {i : Int32} {k : Int32 → M Int32} (hi : inx i L = true) (hk : ok (k (xs i.toNatClampNeg)) g Q) : ok (bd (sx xs L i) k) g Q := ok_rd _ (fun h _ => by
  show (if inx i L = true then some (xs i.toNatClampNeg) else none).map (fun v => (v, h)) = _
  rw [if_pos hi]
  rfl) hk
theorem s_remove (hw : WS n m a3 t g V S ps) (ht : t ≤ 512) (hK : ∀ c g', ok (bd (ck 12 m) (fun _ => bd (X9_remove m) (fun x29 => bd (ck 12 m) (fun _ => bd (X9_thrown m) (fun x30 => it (x30 = c) (it (¬ c = 0) NEXT (bd (ll a3 0) (fun x31 => it (x29 = 0) (it (lg_cmp x31 0 = 0) NEXT (pu 0)) (it (lg_cmp x31 1 = 0) NEXT (pu 0))))) (pu 0)))))) g' Q → ok (K c) g' Q) (hn : NX n m a3 t g V NEXT Q) : ok (bd (L_remove n a3) K) g Q := by
  have hcv := hw.2.2.1
  have hrel := hw.2.2.2
  refine s_call (r := (sRem V).1) (V' := (sRem V).2.1) (z := (sRem V).2.2) (t' := t + 1) (f := fun v => if v = 0 then 0 else 1) (pm := pm3) hw (fun Q8 h => ?_) (fun j hj => ?_) (fun v g' Q' q1 q2 q3 => ?_) pm3_0 (fun g' Q' hM h => r_remove hM hrel ht (fun S' ps' h1 h2 => oM_pu (h S' ps' _ h1 h2 vl_r))) (fun v g' q1 q2 q3 => ?_) hK (fun g2 S2 ps2 h1 h2 => hn g2 _ S2 ps2 _ h1 ⟨3, 0, 0, 0, 0, 0, rfl⟩ h2)
  · rw [← hcv] at h
    exact c_remove hw.1.1 (by rw [hcv]; exact rel_gi hrel) h
  · rcases rem_codes j hj with z | z | z <;> subst z <;> rfl
  · by_cases c : v = 0
    · rw [if_pos c] at q3
      refine ok_itT c ?_
      unfold L_remove_b14
      refine ok_lz (i := 0) q1 rfl (by rw [q2]; decide) ?_
      rw [set_one q2]
      exact ok_pu q3
    · rw [if_neg c] at q3
      refine ok_itF c ?_
      unfold L_remove_b14
      refine ok_lz (i := 0) q1 rfl (by rw [q2]; decide) ?_
      rw [set_one q2]
      exact ok_pu q3
  · refine ok_ll (i := 0) q1 rfl q2 ?_
    by_cases c : v = 0
    · rw [if_pos c]
      exact ok_itT c (ok_itT ((lg_cmp_eq _ _).mpr rfl) q3)
    · rw [if_neg c]
      exact ok_itF c (ok_itT ((lg_cmp_eq _ _).mpr rfl) q3)
theorem s_format {c f : Int32} (hw : WS n m a3 t g V S ps) (hK : ∀ x g', ok (bd (ck 12 m) (fun _ => bd (X9_format m c f) (fun _ => bd (ck 12 m) (fun _ => bd (X9_thrown m) (fun x7 => it (x7 = x) NEXT (pu 0)))))) g' Q → ok (K x) g' Q) (hn : NX n m a3 t g V NEXT Q) : ok (bd (L_format n c f) K) g Q := by
  have hcv := hw.2.2.1
  have hrel := hw.2.2.2
  refine ok_zz (fun hz => ok_bd ?_)
  unfold L_format
  refine ok_ck (cs_x (ci_C hw.1.1)) (ok_bd (c_format hw.1.1 (fun g1 p e => ?_)))
  rw [hcv] at p e ⊢
  obtain ⟨c1, c2, c3, c4, c5⟩ := ws_class hw hz p
  have hfin : ∀ r : Nat ⊕ Unit, Mid n m a3 (fin r g1) S (sFormat c f V).2.1 ∧ (qs (fin r g1) ≤ qs g1 + 6 ∧ 16 * qn (fin r g1) + qs g1 ≤ 16 * qn g1 + qs (fin r g1) + 16) ∧ rsum n (fin r g1) = rsum n g1 ∧ ccnt n (fin r g1) = ccnt n g1 ∧ (CE n g1 → CE n (fin r g1)) := by
    intro r
    cases r with
    | inl j => exact ⟨⟨c1, c2, c3, c4, c5, e⟩, ⟨Nat.le_refl _, by show 16 * (qn g1 + 1) + qs g1 ≤ 16 * qn g1 + (qs g1 + 6) + 16; omega⟩, rfl, rfl, fun h => h⟩
    | inr v => exact ⟨⟨c1, c2, c3, c4, c5, e⟩, ⟨Nat.le_add_right _ _, by show 16 * qn g1 + qs g1 ≤ 16 * qn g1 + qs g1 + 16; omega⟩, rfl, rfl, fun h => h⟩
  obtain ⟨hmid, d8, d9, d10, d11⟩ := hfin (sFormat c f V).1
  have hk : ok (K (th2 (fun _ => 1) (sFormat c f V).1)) (fin (sFormat c f V).1 g1) Q := by
    refine hK _ _ (ref_call (P := fun _ => True) (t' := t + 1) hmid hw.1.2.2.1 hw.1.2.2.2.1 (fun Q' h => r_format hmid.2.1 hrel (fun S' ps' h1 h2 => oM_pu (h S' ps' () h1 h2 trivial))) (fun S' ps' v hws _ => hn _ (sFormat c f V).2.1 S' ps' (sFormat c f V).2.2 hws ⟨0, c, f, 0, 0, 0, rfl⟩ ?_))
    have e1 : rsum n (mset (fin (sFormat c f V).1 g1) m S') = rsum n g1 := d9
    have e2 : ccnt n (mset (fin (sFormat c f V).1 g1) m S') = ccnt n g1 := d10
    have e3 : qs (mset (fin (sFormat c f V).1 g1) m S') = qs (fin (sFormat c f V).1 g1) := rfl
    have e4 : qn (mset (fin (sFormat c f V).1 g1) m S') = qn (fin (sFormat c f V).1 g1) := rfl
    have := p.2.1
    refine ⟨?_, fun q => d11 (this.2 q)⟩
    have := this.1
    unfold acc2 at this
    rw [e1, e2, e3, e4]
    omega
  cases hr : (sFormat c f V).1 with
  | inl j =>
    rw [hr] at hk
    have hj : j = 0 := by
      unfold sFormat at hr
      split at hr
      · cases hr
        rfl
      · cases hr
    subst hj
    exact ok_itT rfl (ok_pu hk)
  | inr v =>
    rw [hr] at hk
    exact ok_pu hk
theorem nx_look (hn : NX n m a3 t g V NEXT Q) : ∀ g2 S2 ps2, WS n m a3 t g2 V S2 ps2 → Cst n g g2 0 → ok NEXT g2 Q := fun g2 S2 ps2 h1 h2 => hn g2 V S2 ps2 0 (ws_mono h1) ⟨5, 0, 0, 0, 0, 0, rfl⟩ h2
/-- the reference's half of a call that answers -/
def TLK (m : Nat) (refX NEXT : M Int32) (c : Int32) : M Int32 := bd (ck 12 m) (fun _ => bd refX (fun x39 => it (c = x39) NEXT (pu 0)))
theorem s_answer {x : Int32} (hw : WS n m a3 t g V S ps) (hK : ∀ c, ok (TLK m (X9_answer m x) NEXT c) g Q → ok (K c) g Q) (hn : NX n m a3 t g V NEXT Q) : ok (bd (ck 11 n) (fun _ => bd (X8_answer n x) K)) g Q := by
  have hcv := hw.2.2.1
  subst hcv
  exact s_looker (c := bat (qB g (n + 5)) x) hw (fun k hk => c_answer hw.1.1 hk) (fun Q' h => r_answer hw.1.2.1 hw.2.2.2 (fun S' h1 => oM_pu (h S' h1))) (hK _) (nx_look hn)
theorem s_file {x y : Int32} (hw : WS n m a3 t g V S ps) (hK : ∀ c, ok (TLK m (X9_file m x y) NEXT c) g Q → ok (K c) g Q) (hn : NX n m a3 t g V NEXT Q) : ok (bd (ck 11 n) (fun _ => bd (X8_file n x y) K)) g Q := by
  have hcv := hw.2.2.1
  subst hcv
  exact s_looker hw (fun k hk => c_file hw.1.1 hk) (fun Q' h => r_file hw.1.2.1 hw.2.2.2 (fun S' h1 => oM_pu (h S' h1))) (hK _) (nx_look hn)
theorem s_byteOf {x y : Int32} (hw : WS n m a3 t g V S ps) (hK : ∀ c, ok (TLK m (X9_byteOf m x y) NEXT c) g Q → ok (K c) g Q) (hn : NX n m a3 t g V NEXT Q) : ok (bd (ck 11 n) (fun _ => bd (X8_byteOf n x y) K)) g Q := by
  have hcv := hw.2.2.1
  subst hcv
  exact s_looker hw (fun k hk => c_byteOf hw.1.1 hk) (fun Q' h => r_byteOf hw.1.2.1 hw.2.2.2 (fun S' h1 => oM_pu (h S' h1))) (hK _) (nx_look hn)
theorem s_entry {x y : Int32} (hw : WS n m a3 t g V S ps) (hK : ∀ c, ok (TLK m (X9_entry m x y) NEXT c) g Q → ok (K c) g Q) (hn : NX n m a3 t g V NEXT Q) : ok (bd (ck 11 n) (fun _ => bd (X8_entry n x y) K)) g Q := by
  have hcv := hw.2.2.1
  subst hcv
  exact s_looker hw (fun k hk => c_entry hw.1.1 hk) (fun Q' h => r_entry hw.1.2.1 hw.2.2.2 (fun S' h1 => oM_pu (h S' h1))) (hK _) (nx_look hn)
theorem s_key {x y : Int32} (hw : WS n m a3 t g V S ps) (hK : ∀ c, ok (TLK m (X9_key m x y) NEXT c) g Q → ok (K c) g Q) (hn : NX n m a3 t g V NEXT Q) : ok (bd (ck 11 n) (fun _ => bd (X8_key n x y) K)) g Q := by
  have hcv := hw.2.2.1
  subst hcv
  exact s_looker hw (fun k hk => c_key hw.1.1 hk) (fun Q' h => r_key hw.1.2.1 hw.2.2.2 (fun S' h1 => oM_pu (h S' h1))) (hK _) (nx_look hn)
theorem s_look {x : Int32} (hw : WS n m a3 t g V S ps) (hK : ∀ c, ok (TLK m (X9_look m x) NEXT c) g Q → ok (K c) g Q) (hn : NX n m a3 t g V NEXT Q) : ok (bd (ck 11 n) (fun _ => bd (X8_look n x) K)) g Q := by
  have hcv := hw.2.2.1
  subst hcv
  exact s_looker hw (fun k hk => c_look hw.1.1 hk) (fun Q' h => r_look hw.1.2.1 hw.2.2.2 (fun S' h1 => oM_pu (h S' h1))) (hK _) (nx_look hn)
theorem law_body {xs : Nat → Int32} {L : Nat} {k23 : Nat → Nat → Nat → Int32 → M Int32} {i4 : Int32} (hw : WS n m a3 t g V S ps) (ht : t ≤ 512) (hL : L ≤ 3072) (hi : i4 = nI (6 * t)) (h6 : 6 * t + 6 ≤ L) (hn : NX n m a3 t g V (k23 n m a3 (i4 + 6)) Q) : ok (L_law_b23b xs L k23 n m a3 i4) g Q := by
  have ix : ∀ j, j < 6 → inx (i4 + nI j) L = true := fun j hj => by
    rw [hi, nI_add]
    exact inx_nI (by omega) (by omega)
  have i0 : inx i4 L = true := by
    rw [hi]
    exact inx_nI (by omega) (by omega)
  have i1 : inx (i4 + 1) L = true := ix 1 (by decide)
  have i2 : inx (i4 + 2) L = true := ix 2 (by decide)
  have i3 : inx (i4 + 3) L = true := ix 3 (by decide)
  have i4' : inx (i4 + 4) L = true := ix 4 (by decide)
  have i5 : inx (i4 + 5) L = true := ix 5 (by decide)
  unfold L_law_b23b
  refine ok_itF (fun q => ?_) (ok_sx i0 ?_)
  · rw [Int32.lt_iff_toInt_lt, hi, show (6 : Int32) = nI 6 from rfl, nI_subI (by omega) (by omega), nI_toInt (by omega)] at q
    omega
  generalize xs i4.toNatClampNeg &&& 31 = x
  by_cases c0 : x = 0
  · exact ok_itT c0 (ok_sx i1 (ok_sx i2 (s_format hw (fun c g' h => ok_sx i1 (ok_sx i2 h)) hn)))
  refine ok_itF c0 ?_
  by_cases c1 : x = 1
  · exact ok_itT c1 (ok_sx i1 (ok_sx i2 (ok_sx i3 (ok_sx i4' (ok_sx i5 (s_feed hw (fun c g' h => ok_sx i1 (ok_sx i2 (ok_sx i3 (ok_sx i4' (ok_sx i5 h))))) hn))))))
  refine ok_itF c1 ?_
  by_cases c2 : x = 2
  · exact ok_itT c2 (ok_sx i1 (s_put hw ht (fun c g' h => ok_sx i1 h) hn))
  refine ok_itF c2 ?_
  by_cases c3 : x = 3
  · exact ok_itT c3 (s_remove hw ht (fun c g' h => h) hn)
  refine ok_itF c3 ?_
  by_cases c4 : x = 4
  · exact ok_itT c4 (s_get hw (fun c g' h => h) hn)
  refine ok_itF c4 ?_
  by_cases c5 : x = 5
  · exact ok_itT c5 (ok_sx i1 (s_answer hw (fun c h => ok_sx i1 h) hn))
  refine ok_itF c5 ?_
  by_cases c6 : x = 6
  · exact ok_itT c6 (s_sync hw (fun c g' h => h) hn)
  refine ok_itF c6 ?_
  by_cases c7 : x = 7
  · exact ok_itT c7 (ok_sx i1 (s_crash hw (fun c g' h => ok_sx i1 h) hn))
  refine ok_itF c7 ?_
  by_cases c8 : x = 8
  · exact ok_itT c8 (s_open hw ht (fun c g' h => h) hn)
  refine ok_itF c8 ?_
  by_cases c9 : x = 9
  · exact ok_itT c9 (s_mergeBegin hw (fun c g' h => h) hn)
  refine ok_itF c9 ?_
  by_cases c10 : x = 10
  · exact ok_itT c10 (ok_sx i1 (s_mergeStep hw ht (fun c g' h => ok_sx i1 h) hn))
  refine ok_itF c10 ?_
  by_cases c11 : x = 11
  · exact ok_itT c11 (ok_sx i1 (ok_sx i2 (ok_sx i3 (s_patch hw (fun c g' h => ok_sx i1 (ok_sx i2 (ok_sx i3 h))) hn))))
  refine ok_itF c11 ?_
  by_cases c12 : x = 12
  · exact ok_itT c12 (ok_sx i1 (ok_sx i2 (s_file hw (fun c h => ok_sx i1 (ok_sx i2 h)) hn)))
  refine ok_itF c12 ?_
  by_cases c13 : x = 13
  · exact ok_itT c13 (ok_sx i1 (ok_sx i2 (s_byteOf hw (fun c h => ok_sx i1 (ok_sx i2 h)) hn)))
  refine ok_itF c13 ?_
  by_cases c14 : x = 14
  · exact ok_itT c14 (ok_sx i1 (ok_sx i2 (s_entry hw (fun c h => ok_sx i1 (ok_sx i2 h)) hn)))
  refine ok_itF c14 ?_
  by_cases c15 : x = 15
  · exact ok_itT c15 (ok_sx i1 (ok_sx i2 (s_key hw (fun c h => ok_sx i1 (ok_sx i2 h)) hn)))
  refine ok_itF c15 ?_
  by_cases c16 : x = 16
  · exact ok_itT c16 (s_bad hw (fun c g' h => h) hn)
  refine ok_itF c16 ?_
  by_cases c17 : x = 17
  · exact ok_itT c17 (ok_sx i1 (s_look hw (fun c h => ok_sx i1 h) hn))
  refine ok_itF c17 ?_
  refine hn g V S ps 0 (ws_mono hw) ⟨5, 0, 0, 0, 0, 0, rfl⟩ ?_
  refine ⟨?_, fun h => h⟩
  omega
end
/-- the relation holds at each unit that is left -/
def RU (V : VC) : Prop := ∀ j, j ≤ uN V → (∃ t C S ps, t ≤ 512 ∧ RelB t C (itU j V).1 S ps) ∧ uN (itU j V).1 + j = uN V ∧ (j < uN V → UG (itU j V).1)
theorem units_ru {m : Nat} {g : Gh} {t : Nat} {C : Int} (hM : Mk m g) (ht : t ≤ 512) (hCb : C ≤ 1000000) : ∀ (j : Nat) (V : VC) (S : MS) (ps : List AV), RelB t C V S ps → V.1.2.2.2.2.2.toInt + uM V ≤ C → j ≤ uN V → (∃ h, Abs h (mset g m S)) → (∃ t C S ps, t ≤ 512 ∧ RelB t C (itU j V).1 S ps) ∧ uN (itU j V).1 + j = uN V ∧ (j < uN V → UG (itU j V).1)
  | 0, V, S, ps, h, hmu, hj, ⟨hp, hA⟩ => by
    refine ⟨⟨t, C, S, ps, ht, h⟩, rfl, fun q => ?_⟩
    obtain ⟨u, hu⟩ : ∃ u, uN V = u + 1 := ⟨uN V - 1, by omega⟩
    exact (u_step (α := Unit) hM h ht hCb hmu hu).2.1
  | j + 1, V, S, ps, h, hmu, hj, ⟨hp, hA⟩ => by
    obtain ⟨u, hu⟩ : ∃ u, uN V = u + 1 := ⟨uN V - 1, by omega⟩
    obtain ⟨_, g1, g2, g3, g4⟩ := u_step (α := Unit) hM h ht hCb hmu hu
    have ho := g4 (fun _ => pu ()) (fun _ S' => ∃ ps', RelB t C (duV V).1 S' ps') (fun S' ps' hr _ => oM_pu ⟨ps', hr⟩)
    obtain ⟨v, h', g', _, hA', S', e, ps', hr⟩ := ho hp hA
    rw [e] at hA'
    obtain ⟨r1, r2, r3⟩ := units_ru hM ht hCb j (duV V).1 S' ps' hr g2 (by omega) ⟨h', hA'⟩
    refine ⟨r1, ?_, fun q => r3 (by omega)⟩
    show uN (itU j (duV V).1).1 + (j + 1) = uN V
    omega
theorem ws_ru {n m a3 t : Nat} {g : Gh} {V : VC} {S : MS} {ps : List AV} (hw : WS n m a3 t g V S ps) (ht : t ≤ 512) {hp : Hp} (hA : Abs hp g) : RU V := by
  intro j hj
  obtain ⟨hB, hmu⟩ := rel_mu hw.2.2.2
  exact units_ru hw.1.2.1 ht (by omega) j V S ps hB hmu hj ⟨hp, by rw [at_eq hw.2.1]; exact hA⟩
def RRV (V : VC) : Prop := ∃ t S ps, t ≤ 512 ∧ Rel t V S ps
/-- k calls, and what they cost in rows of files -/
def Pth : Nat → VC → VC → Nat → Prop
  | 0, V, W, z => V = W ∧ z = 0
  | k + 1, V, W, z => ∃ U z1 z2, Stq V U z1 ∧ ((RRV V ∧ RU V) ∧ (RRV U ∧ RU U)) ∧ Pth k U W z2 ∧ z = z1 + z2
def CstN (n : Nat) (g g' : Gh) (z k : Nat) : Prop := (qs g' + rsum n g ≤ qs g + rsum n g' + z + 6 * k ∧ 16 * qn g' + qs g + 16 * ccnt n g ≤ 16 * qn g + qs g' + 16 * ccnt n g' + 16 * k) ∧ (CE n g → CE n g')
theorem law_loop {n m a3 L : Nat} {xs : Nat → Int32} (hL : L ≤ 3072) : ∀ (d N t : Nat) (g : Gh) (V : VC) (S : MS) (ps : List AV), d < N → t + d = 512 → WS n m a3 t g V S ps → ok (L_law_b23 xs L N n m a3 (nI (6 * t))) g (fun v g' => v = 1 ∧ ∃ V' S' ps' k z, k ≤ d ∧ WS n m a3 512 g' V' S' ps' ∧ Pth k V V' z ∧ CstN n g g' z k) := by
  have up : ∀ (d t : Nat) (g : Gh) (V : VC) (S : MS) (ps : List AV), t + d = 512 → WS n m a3 t g V S ps → WS n m a3 512 g V S ps := by
    intro d
    induction d with
    | zero => exact fun t g V S ps h hw => by rw [← h]; exact hw
    | succ d ih => exact fun t g V S ps h hw => ih (t + 1) g V S ps (by omega) (ws_mono hw)
  have stop : ∀ (d N t : Nat) (g : Gh) (V : VC) (S : MS) (ps : List AV), 0 < N → t + d = 512 → L < 6 * t + 6 → WS n m a3 t g V S ps → ok (L_law_b23 xs L N n m a3 (nI (6 * t))) g (fun v g' => v = 1 ∧ ∃ V' S' ps' k z, k ≤ d ∧ WS n m a3 512 g' V' S' ps' ∧ Pth k V V' z ∧ CstN n g g' z k) := by
    intro d N t g V S ps hN htd hlt hw
    obtain ⟨N, rfl⟩ : ∃ M, N = M + 1 := ⟨N - 1, by omega⟩
    show ok (L_law_b23b xs L (L_law_b23 xs L N) n m a3 (nI (6 * t))) g _
    unfold L_law_b23b
    refine ok_itT ?_ (ok_pu ⟨rfl, V, S, ps, 0, 0, Nat.zero_le _, up d t g V S ps htd hw, ⟨rfl, rfl⟩, ?_⟩)
    · rw [Int32.lt_iff_toInt_lt, show (6 : Int32) = nI 6 from rfl, nI_subI (by omega) (by omega), nI_toInt (by omega)]
      omega
    · refine ⟨?_, fun h => h⟩
      omega
  intro d
  induction d with
  | zero =>
    intro N t g V S ps hd htd hw
    exact stop 0 N t g V S ps hd htd (by omega) hw
  | succ d ih =>
    intro N t g V S ps hd htd hw
    by_cases h6 : 6 * t + 6 ≤ L
    · obtain ⟨N, rfl⟩ : ∃ M, N = M + 1 := ⟨N - 1, by omega⟩
      show ok (L_law_b23b xs L (L_law_b23 xs L N) n m a3 (nI (6 * t))) g _
      intro hp0 hA0
      refine law_body hw (by omega) hL rfl h6 (fun g2 V2 S2 ps2 z h1 h2 h3 => ?_) hp0 hA0
      have e : nI (6 * t) + 6 = nI (6 * (t + 1)) := by
        rw [show (6 : Int32) = nI 6 from rfl, nI_add, show 6 * (t + 1) = 6 * t + 6 by omega]
      rw [e]
      intro hp hA
      refine ok_mono (ih N (t + 1) g2 V2 S2 ps2 (by omega) (by omega) h1) (fun v g' q => ?_) hp hA
      obtain ⟨q1, V', S', ps', k, z', q2, q3, q4, q5⟩ := q
      refine ⟨q1, V', S', ps', k + 1, z + z', by omega, q3, ⟨V2, z, z', h2, ⟨⟨⟨t, S, ps, by omega, hw.2.2.2⟩, ws_ru hw (by omega) hA0⟩, ⟨t + 1, S2, ps2, by omega, h1.2.2.2⟩, ws_ru h1 (by omega) hA⟩, q4, rfl⟩, ?_⟩
      obtain ⟨q5, q6⟩ := q5
      obtain ⟨h3, h4⟩ := h3
      refine ⟨?_, fun q => q6 (h4 q)⟩
      omega
    · exact stop (d + 1) N t g V S ps (by omega) htd (by omega) hw
