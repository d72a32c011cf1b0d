/-! groups are built, exactly -/
def gbY (sc : Int → Int) (v ans : Int) : Prop := ∃ (mc : Int → Int) (mk : Int), mkP sc mc mk ∧ ((v = 0 ∧ ∃ (cs : Int → Int) (m : Int), coX cs mc mk m 0) ∨ ∃ (cs : Int → Int) (N : Int) (mul : Int → Int → Int), wS cs mc mk N ∧ ris cs N ∧ isM cs N mul ∧ ((v = 1 ∧ ¬ tooMany N mul ∧ ans = N) ∨ (v = 0 ∧ tooMany N mul)))
section
variable {G : List gS} {R V : gV} {T : gT} {g p n o m f b b2 : Nat} {C D E : Int}
theorem groupBuild_x (u : gI G R T g p n C D o m E) (w : fT G R T f) (hf : f + 11 < g) (th : TH T V) {a : Int} (ha : 1 ≤ a ∧ a ≤ 8) {q : Nat} (hq : G[q]? = some (gA 0 4)) (hqx : q < g) (hsc : ∀ s, 0 ≤ s → s < 4 → cO (V q s) ∧ pm (V q s)) : cw 6 (fun r G' R' V' => ∃ v : Int, r = some (0, v) ∧ (0 ≤ v ∧ v ≤ 1) ∧ gbP G R T g p n o m v G' R' V' ∧ gbY (fun s => V q s) v (V' (g + 1) 1)) 32 [(4, (g : Int)), (0, a), (4, (q : Int)), (4, (f : Int))] G R V := by
  obtain ⟨u, p1, p2, o1, po, n1, m1⟩ := u
  have lo := (List.getElem?_eq_some_iff.mp u.h.go).1
  have lp := (List.getElem?_eq_some_iff.mp u.t.gp).1
  have ly := (List.getElem?_eq_some_iff.mp (ly4_12 u.h.a.ly).2).1
  refine c_X2_build (t_X2_build_0 ⟨ly2_o u.ly, g + 1, (ly2_0 u.ly).1, ly6_o u.t.ly, ?_⟩)
  refine cw_mono (by omega) (turnsBuild_x u.t th (by omega) ha hq (Or.inl (by omega)) hsc) (fun r G3 R3 V3 h => ?_)
  obtain ⟨v4, e4, hv4, T1, p', n', C', D', th1, t1, hD, hp', fT1, fR1, gr, ⟨mkp, tb⟩, pin⟩ := h
  obtain ⟨pp, pn⟩ := gR_p gr
  obtain ⟨ex, eG, exl, exs⟩ := gR_s gr
  have hG : gX2 G G3 := by rw [eG]; exact gX2_app
  have h1 : hT G3 R3 T1 (g + 10) o m E := hT_m u.h hG (fun i => fR1 _ _ (Or.inl (by omega))) (fun c z1 z2 => fT1 c (by omega) (by omega) (by omega)) (fT1 o (by omega) (by omega) (by omega))
  have ly1 : lay2 G3 R3 g := lay2_m u.ly hG ⟨fR1 _ _ (Or.inl (by omega)), fR1 _ _ (Or.inl (by omega))⟩ t1.ly h1.a.ly
  have w1 : fT G3 R3 T1 f := fT_m w hG (fun i => fR1 _ _ (Or.inl (by omega))) (fun c z1 z2 => fT1 c (by omega) (by omega) (by omega))
  have g1 : gI G3 R3 T1 g p' n' C' D' o m E := gI.mk (gT2.mk ly1 t1 h1) (by omega) (by omega) o1 (by omega) (pn n1) m1
  have fl : ∀ (V' : gV) (v : Int), TH T1 V' → (v ≠ 0 → D' ≤ C') → gbP G R T g p n o m v G3 R3 V' := fun V' v th' hv => ⟨T1, p', n', C', D', o, m, E, th', g1, hv, fun c z1 z2 z3 z4 => fT1 c (by omega) z2 (by omega), fun c i z => fR1 c i (Or.inl (by omega)), by omega, Or.inl rfl, ex, eG, by omega, by omega⟩
  refine ⟨v4, e4, by omega, fun z => ⟨0, rfl, by omega, fl _ _ th1 (fun q => absurd rfl q), ?_⟩, fun z => ⟨ly2_o ly1, g + 1, (ly2_0 ly1).1, ly3_o w1.ly, ?_⟩⟩
  · rcases tb with y | y
    · exact ⟨_, _, mkp, Or.inl ⟨rfl, _, _, y.2⟩⟩
    · exact absurd y.1 (by omega)
  obtain ⟨ws, hr, mu, tx⟩ : wS (fun j => V3 (g + 1 + 1) j) (fun m => V3 (g + 1 + 5) m) (V3 (g + 1) 2) (V3 (g + 1) 1) ∧ ris (fun j => V3 (g + 1 + 1) j) (V3 (g + 1) 1) ∧ isM (fun j => V3 (g + 1 + 1) j) (V3 (g + 1) 1) (pMul V3 (g + 1) p') ∧ tX V3 (g + 1) p' := by
    rcases tb with y | y
    · exact absurd y.1 z
    · exact y.2
  have pn3 := pin z
  refine cwI_u (by omega) (find_x (V0 := V3) (V := V3) ⟨w1, t1, hD z, by omega, by omega, tx⟩ ⟨th1, Fr_0⟩) (fun v10 V9 h9 => ?_)
  obtain ⟨hv10, th9, f9, h90, tm⟩ := h9
  refine ⟨by omega, fun z2 => ⟨g + 10, (ly2_1 ly1).1, ly4_o h1.a.ly, ?_⟩, fun z2 => ⟨0, rfl, by omega, fl _ _ th9 (fun q => absurd rfl q), ?_⟩⟩
  · refine cw_mono (by omega) (fill_k h1 w1 t1 (hD z) th9 (h90 z2) (by omega) (by omega) hp' (by omega) (by omega) (by omega)) (fun r2 G4 R4 V4 h => ?_)
    obtain ⟨e5, T2, o', m', E', th4, h4, ho', fT2, fR2, gr2⟩ := h
    obtain ⟨pp2, pn2⟩ := gR_p gr2
    obtain ⟨ex2, eG2, exl2, exs2⟩ := gR_s gr2
    have lp' := (List.getElem?_eq_some_iff.mp t1.gp).1
    have l3 : G.length ≤ G3.length := by rw [eG, List.length_append]; omega
    have hG2 : gX2 G3 G4 := by rw [eG2]; exact gX2_app
    have t4 : tT G4 R4 T2 (g + 1) p' n' C' D' := tT_m t1 hG2 (fun i => fR2 _ _ (Or.inl (by omega))) (fun c z1 z2 => fT2 c (by omega) (by omega) (by omega)) (fT2 p' (by omega) (by omega) (by omega))
    have ly4 : lay2 G4 R4 g := lay2_m ly1 hG2 ⟨fR2 _ _ (Or.inl (by omega)), fR2 _ _ (Or.inl (by omega))⟩ t4.ly h4.a.ly
    have eN : V4 (g + 1) 1 = V3 (g + 1) 1 := by
      have := th4 (g + 1) 1
      rw [fT2 (g + 1) (by omega) (by omega) (by omega)] at this
      exact pn3 _ this
    refine ⟨e5, 1, rfl, by omega, ⟨T2, p', n', C', D', o', m', E', th4, gI.mk (gT2.mk ly4 t4 h4) (by omega) (by omega) (by omega) (by omega) (pn n1) (pn2 m1), fun _ => hD z, fun c z1 z2 z3 z4 => ?_, fun c i z1 => ?_, by omega, by omega, ex ++ ex2, by rw [eG2, eG, List.append_assoc], by rw [List.length_append]; omega, by rw [szG_app]; omega⟩, ?_⟩
    · rw [fT2 c (by omega) z3 (by omega), fT1 c (by omega) z2 (by omega)]
    · rw [fR2 c i (Or.inl (by omega)), fR1 c i (Or.inl (by omega))]
    · refine ⟨_, _, mkp, Or.inr ⟨_, _, _, ws, hr, mu, Or.inl ⟨rfl, ?_, eN⟩⟩⟩
      rcases tm with y | y
      · exact y.2
      · exact absurd y.1 z2
  · refine ⟨_, _, mkp, Or.inr ⟨_, _, _, ws, hr, mu, Or.inr ⟨rfl, ?_⟩⟩⟩
    rcases tm with y | y
    · exact absurd y.1 (by omega)
    · exact y.2
end
