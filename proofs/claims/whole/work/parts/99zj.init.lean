/-! the start: the class's object is in order -/
set_option maxRecDepth 20000 in
theorem c_init {N : Nat} {K : Nat → M Int32} {Q : Int32 → Gh → Prop} (hN : 0 < N) (hk : ∀ g g', (qn g = N + 22 ∧ qs g = 160 ∧ rsum N g = 192 ∧ ccnt N g = 0 ∧ CE N g) → Cp N g g' 0 → CV N g' = sBegin 4096 512 V00 → ok (K N) g' Q) : ok (bd (nw 11 11) (fun y1 => bd (X8_init y1) (fun _ => K y1))) (g0 N) Q := by
  refine ly_O (by decide) ly_0 (fun g1 h1 => ok_bd ?_)
  unfold X8_init
  refine ly_B h1 (fun g2 h2 => ?_)
  refine ly_R h2 (by decide) (by decide) rfl (fun g3 h3 => ?_)
  refine ly_B h3 (fun g4 h4 => ?_)
  refine ly_R h4 (by decide) (by decide) rfl (fun g5 h5 => ?_)
  refine ly_B h5 (fun g6 h6 => ?_)
  refine ly_R h6 (by decide) (by decide) rfl (fun g7 h7 => ?_)
  refine ly_B h7 (fun g8 h8 => ?_)
  refine ly_R h8 (by decide) (by decide) rfl (fun g9 h9 => ?_)
  refine ly_O (by decide) h9 (fun g10 h10 => ok_bd ?_)
  unfold X3_init
  refine ly_L h10 (fun g11 h11 => ?_)
  refine ly_R h11 (by decide) (by decide) rfl (fun g12 h12 => ?_)
  refine ly_L h12 (fun g13 h13 => ?_)
  refine ly_R h13 (by decide) (by decide) rfl (fun g14 h14 => ?_)
  refine ly_L h14 (fun g15 h15 => ?_)
  refine ly_R h15 (by decide) (by decide) rfl (fun g16 h16 => ok_pu ?_)
  refine ly_R h16 (by decide) (by decide) rfl (fun g17 h17 => ?_)
  refine ly_O (by decide) h17 (fun g18 h18 => ok_bd ?_)
  unfold X2_init
  refine ly_L h18 (fun g19 h19 => ?_)
  refine ly_R h19 (by decide) (by decide) rfl (fun g20 h20 => ?_)
  refine ly_L h20 (fun g21 h21 => ?_)
  refine ly_R h21 (by decide) (by decide) rfl (fun g22 h22 => ok_pu ?_)
  refine ly_R h22 (by decide) (by decide) rfl (fun g23 h23 => ?_)
  refine ly_O (by decide) h23 (fun g24 h24 => ?_)
  refine ly_gR (b := 9) hN h24 (by decide) (by decide) rfl ?_
  refine ly_gR (b := 13) hN h24 (by decide) (by decide) rfl ?_
  refine ok_bd ?_
  unfold X5_init
  refine ly_B h24 (fun g25 h25 => ?_)
  refine ly_R h25 (by decide) (by decide) rfl (fun g26 h26 => ?_)
  refine ly_B h26 (fun g27 h27 => ?_)
  refine ly_R h27 (by decide) (by decide) rfl (fun g28 h28 => ?_)
  refine ly_R h28 (by decide) (by decide) rfl (fun g29 h29 => ?_)
  refine ly_R h29 (by decide) (by decide) rfl (fun g30 h30 => ok_pu ?_)
  refine ly_R h30 (by decide) (by decide) rfl (fun g31 h31 => ?_)
  refine ly_O (by decide) h31 (fun g32 h32 => ?_)
  refine ly_gR (b := 9) hN h32 (by decide) (by decide) rfl ?_
  refine ly_gR (b := 13) hN h32 (by decide) (by decide) rfl ?_
  refine ok_bd ?_
  unfold X6_init
  refine ly_R h32 (by decide) (by decide) rfl (fun g33 h33 => ?_)
  refine ly_R h33 (by decide) (by decide) rfl (fun g34 h34 => ok_pu ?_)
  refine ly_R h34 (by decide) (by decide) rfl (fun g35 h35 => ?_)
  have hS := h35
  obtain ⟨⟨e1, e2⟩, hK, _, hR, hC, hB, hL, hE, hi⟩ := h35
  have kk : ∀ o v, (o, v) ∈ _ → qk g35 (N + o) = v := fun o v q => (hK (o, v) q).2
  have rr : ∀ f o b, (f, o, b) ∈ _ → qr g35 f (N + o) = N + b := fun f o b q => (hR (f, o, b) q).2
  have hCI : CI N g35 := by
    refine ⟨⟨⟨hN, ⟨⟨kk 0 12 (by decide), kk 1 5 (by decide), kk 3 5 (by decide), kk 5 5 (by decide), kk 7 5 (by decide)⟩, ⟨kk 9 7 (by decide), kk 10 3 (by decide), kk 11 3 (by decide), kk 12 3 (by decide)⟩, ⟨kk 13 6 (by decide), kk 14 3 (by decide), kk 15 3 (by decide)⟩, kk 16 9 (by decide), kk 17 5 (by decide), kk 19 5 (by decide), kk 21 10 (by decide)⟩, ⟨⟨rr 1100 0 1 (by decide), rr 1101 0 3 (by decide), rr 1102 0 5 (by decide), rr 1103 0 7 (by decide)⟩, ⟨rr 1104 0 9 (by decide), rr 1105 0 13 (by decide), rr 1106 0 16 (by decide), rr 1107 0 21 (by decide)⟩, ⟨rr 600 9 10 (by decide), rr 601 9 11 (by decide), rr 602 9 12 (by decide)⟩, ⟨rr 500 13 14 (by decide), rr 501 13 15 (by decide)⟩, ⟨rr 800 16 9 (by decide), rr 801 16 13 (by decide), rr 802 16 17 (by decide), rr 803 16 19 (by decide)⟩, rr 900 21 9 (by decide), rr 901 21 13 (by decide)⟩⟩, ?_, ?_, ?_⟩, ⟨kk 2 0 (by decide), kk 4 0 (by decide), kk 6 0 (by decide), kk 18 0 (by decide)⟩, ?_, ?_, ?_⟩
    · unfold DI
      rw [hL, hL]
      exact ⟨fun d hd => absurd hd (by simp), List.nodup_nil⟩
    · unfold AvI acn
      rw [hi, hL]
      exact ⟨rfl, by decide, fun v hv => absurd hv (by simp), List.nodup_nil, fun v hv => absurd hv (by simp)⟩
    · unfold RI
      rw [hL, hL]
      exact ⟨fun d hd => absurd hd (by simp), List.nodup_nil⟩
    · rw [hL]
      decide
    · rw [hL, hL]
      decide
    · rw [hL, hL]
      decide
  have hV : CV N g35 = V00 := by
    unfold CV vD vM vO vK vT FV SV AIV DSC RV
    simp only [hB, hL, hi, List.map_nil, List.take_nil]
    rfl
  have cc : ∀ c, c ∈ _ → qC g35 (N + c) = 16 := fun c q => (hC c q).2
  have h1s : rsum N g35 = 192 := by
    unfold rsum
    rw [cc 1 (by decide), cc 3 (by decide), cc 5 (by decide), cc 7 (by decide), cc 17 (by decide), cc 19 (by decide)]
    simp only [hL, hE]
    rfl
  have h2s : ccnt N g35 = 0 := by
    unfold ccnt
    simp only [hL, hE]
    rfl
  have h3s : CE N g35 := by
    unfold CE
    rw [cc 1 (by decide), cc 3 (by decide), cc 5 (by decide), cc 7 (by decide)]
    simp only [hL, hE]
    decide
  refine ok_ck (kk 0 12 (by decide)) (k_begin hCI (fun g' p e => ok_pu (hk g35 g' ⟨e1, e2, h1s, h2s, h3s⟩ p ?_)))
  exact e.trans (congrArg (sBegin 4096 512) hV)
