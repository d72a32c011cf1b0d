/-! groups are built, exactly -/
theorem SM_mul {N : Int} {mul mul' : Int → Int → Int} (e : ∀ s t, 0 ≤ s → s < N → 0 ≤ t → t < N → mul s t = mul' s t) {S : Int → Int} (h : SM N mul S) : SM N mul' S := ⟨h.1, h.2.1, fun s t a b c d x y => by rw [← e s t a b c d]; exact h.2.2 s t a b c d x y⟩
theorem many_mul {N : Int} {mul mul' : Int → Int → Int} (e : ∀ s t, 0 ≤ s → s < N → 0 ≤ t → t < N → mul s t = mul' s t) (h : tooMany N mul) : tooMany N mul' := by
  obtain ⟨F, f1, f2⟩ := h
  exact ⟨F, fun i i0 i1 => SM_mul e (f1 i i0 i1), f2⟩
theorem hps_mul {N H : Int} {mul mul' : Int → Int → Int} (e : ∀ s t, 0 ≤ s → s < N → 0 ≤ t → t < N → mul s t = mul' s t) {S : Int → Int → Int} {sz : Int → Int} (h : hpsP N H mul S sz) : hpsP N H mul' S sz := ⟨h.1, h.2.1, fun k k0 k1 => ⟨SM_mul e (h.2.2.1 k k0 k1).1, (h.2.2.1 k k0 k1).2⟩, fun W hW => h.2.2.2.1 W (SM_mul (fun s t a b c d => (e s t a b c d).symm) hW), h.2.2.2.2⟩
/-- the heaps of a group, as its data tell them: all closed sets, in order -/
abbrev hsD (d : gD) (k : Int) : Int → Int := fun t => bt (d 201 k) (d 202 k) t
/-- a group's products and inverses, classes, signs, and what its turns make -/
abbrev mlD (d : gD) : Int → Int → Int := fun s t => d (2 + s) t
def hgD (d : gD) : Prop := GT (d 0 1) (mlD d) (d 230) ∧ clX (d 0 1) (d 0 2) (d 0 3) (mlD d) (d 230) (hsD d) (d 204) (d 207) (d 208) ∧ (∀ c e, 0 ≤ c → c < d 0 3 → 0 ≤ e → e < d 0 3 → d 220 (c * d 0 3 + e) = ov (d 0 1) (d 0 2) (hsD d) (d 204) (d 207) c e) ∧ (∀ c, 0 ≤ c → c < d 0 3 → d 210 c = d 0 1 / (d 208 c * d 203 (d 207 c))) ∧ (∀ c, 0 ≤ c → c < d 0 3 → d 209 c = kw (mu (d 0 2) (Lq (d 0 1) (hsD d)) (d 207 c))) ∧ (∀ t, 0 ≤ t → t < d 0 1 → inP (d 0 1) (d 0 2) (hsD d) (cyc (mlD d) t) (d 205 t) ∧ isOr (mlD d) t (d 231 t).toNat ∧ 1 ≤ d 231 t) ∧ (∀ i, 0 ≤ i → i < d 0 2 → loP (d 0 1) (d 0 2) (hsD d) (cmU (d 0 1) (mlD d) (d 230) (hsD d i)) (d 206 i))
def hsX (d : gD) : Prop := hpsP (d 0 1) (d 0 2) (fun s t => d (2 + s) t) (hsD d) (fun k => d 203 k) ∧ (∀ a b, 0 ≤ a → a < b → b < d 0 2 → ahd (d 0 1) (hsD d a) (hsD d b)) ∧ (∀ k, 0 ≤ k → k < d 0 2 → ∀ t, d 0 1 ≤ t → t < 128 → hsD d k t = 0) ∧ hgD d
theorem hsX_V {V : gV} {g p o : Nat} {qd : Int → Int} {mul : Int → Int → Int} (gt : GT (V (g + 1) 1) mul (fun t => V (g + 3) t)) (e : ∀ s t, 0 ≤ s → s < V (g + 1) 1 → 0 ≤ t → t < V (g + 1) 1 → mul s t = dV V g p o qd (2 + s) t) (h : hfX (V (g + 1) 1) mul V (g + 10)) (h2 : hgX (V (g + 1) 1) mul (fun t => V (g + 3) t) V (g + 10) o) (h3 : ∀ t, 0 ≤ t → t < V (g + 1) 1 → isOr mul t (V (g + 4) t).toNat ∧ 1 ≤ V (g + 4) t) (h4 : ∀ i, 0 ≤ i → i < V (g + 10) 0 → loP (V (g + 1) 1) (V (g + 10) 0) (hR V (g + 10)) (cmU (V (g + 1) 1) mul (fun t => V (g + 3) t) (hR V (g + 10) i)) (qd i)) : hsX (dV V g p o qd) := by
  have d1 : dV V g p o qd 201 = fun b => V (g + 10 + 1) b := dV_h 1 (by omega) (by omega) (by omega)
  have d2 : dV V g p o qd 202 = fun b => V (g + 10 + 2) b := dV_h 2 (by omega) (by omega) (by omega)
  have d3 : dV V g p o qd 203 = fun b => V (g + 10 + 3) b := dV_h 3 (by omega) (by omega) (by omega)
  have d4 : dV V g p o qd 204 = fun b => V (g + 10 + 4) b := dV_h 4 (by omega) (by omega) (by omega)
  have d5 : dV V g p o qd 205 = fun b => V (g + 10 + 5) b := dV_h 5 (by omega) (by omega) (by omega)
  have d7 : dV V g p o qd 207 = fun b => V (g + 10 + 7) b := dV_h 7 (by omega) (by omega) (by omega)
  have d8 : dV V g p o qd 208 = fun b => V (g + 10 + 8) b := dV_h 8 (by omega) (by omega) (by omega)
  have d9 : dV V g p o qd 209 = fun b => V (g + 10 + 9) b := dV_h 9 (by omega) (by omega) (by omega)
  have d10 : dV V g p o qd 210 = fun b => V (g + 10 + 10) b := dV_h 10 (by omega) (by omega) (by omega)
  have eh : hsD (dV V g p o qd) = hR V (g + 10) := by
    funext k t
    show bt (dV V g p o qd 201 k) (dV V g p o qd 202 k) t = bt (V (g + 10 + 1) k) (V (g + 10 + 2) k) t
    rw [d1, d2]
  have gt' : GT (V (g + 1) 1) (mlD (dV V g p o qd)) (fun t => V (g + 3) t) := GT_E gt e
  unfold hsX hgD
  rw [eh, dV_01, dV_02, dV_03, d3, d4, d5, d7, d8, d9, d10, dV_i, dV_o, dV_v, dV_q]
  refine ⟨hps_mul e h.1, h.2.1, h.2.2, gt', cl_E gt gt' e (fun A B => ⟨CJ_E gt gt' e, CJ_E gt' gt (fun s t a b c d => (e s t a b c d).symm)⟩) h2.1, h2.2.1, h2.2.2.1, h2.2.2.2.1, fun t t0 t1 => ⟨?_, isOr_E gt e ⟨t0, t1⟩ (h3 t t0 t1).1, (h3 t t0 t1).2⟩, fun i i0 i1 => ?_⟩
  · have q := h2.2.2.2.2 t t0 t1
    rw [cyc_E gt e ⟨t0, t1⟩] at q
    exact q
  · have q := h4 i i0 i1
    rw [cmU_c gt gt' e (fun _ _ _ => rfl) (fun _ _ _ => rfl)] at q
    exact q
def gbZ (sc : Int → Int) (a v : Int) (d : gD) : Prop := ∃ (mc : Int → Int) (mk : Int), mkP sc mc mk ∧ ((v = 0 ∧ ∃ (cs : Int → Int) (m : Int), coX cs mc mk m 0) ∨ (v = 0 ∧ ∃ (cs : Int → Int) (N : Int) (mul : Int → Int → Int), wS cs mc mk N ∧ ris cs N ∧ isM cs N mul ∧ tooMany N mul) ∨ (v = 1 ∧ wS (d 1) mc mk (d 0 1) ∧ ris (d 1) (d 0 1) ∧ isM (d 1) (d 0 1) (fun s t => d (2 + s) t) ∧ ¬ tooMany (d 0 1) (fun s t => d (2 + s) t) ∧ d 0 0 = a ∧ hsX d))
section
variable {G : List gS} {R V : gV} {T : gT} {g p n o m f b b2 : Nat} {C D E : Int}
theorem groupBuild_x (u : gIB G R T g p n C D o m E) (w : fT G R T f) (hf : f + 11 < g) (th : TH T V) {a : Int} (ha : 1 ≤ a ∧ a ≤ 8) {q : Nat} (hq : G[q]? = some (gA 0 4)) (hqx : q < g) (hsc : ∀ s, 0 ≤ s → s < 4 → cO (V q s) ∧ pm (V q s)) : cw 6 (fun r G' R' V' => ∃ v : Int, r = some (0, v) ∧ (0 ≤ v ∧ v ≤ 1) ∧ ∃ qd : Int → Int, gbP G R T g p n o m v qd G' R' V' ∧ ∃ pp oo : Nat, R' (g + 1) 10 = (pp : Int) ∧ R' (g + 10) 13 = (oo : Int) ∧ gbZ (fun s => V q s) a v (dV V' g pp oo qd)) 32 [(4, (g : Int)), (0, a), (4, (q : Int)), (4, (f : Int))] G R V := by
  obtain ⟨uly, ut, uh, ub, p1, p2, o1, po, n1, m1⟩ := u
  have lo := (List.getElem?_eq_some_iff.mp uh.go).1
  have lp := (List.getElem?_eq_some_iff.mp ut.gp).1
  have ly := (List.getElem?_eq_some_iff.mp (ly4_12 uh.a.ly).2).1
  refine c_X2_build (t_X2_build_0 ⟨ly2_o uly, g + 1, (ly2_0 uly).1, ly6_o ut.ly, ?_⟩)
  refine cw_mono (by omega) (turnsBuild_x ut th (by omega) ha hq (Or.inl (by omega)) hsc) (fun r G3 R3 V3 h => ?_)
  obtain ⟨v4, e4, hv4, T1, p', n', C', D', th1, t1, hD, hp', fT1, fR1, gr, ⟨mkp, tb⟩, pin⟩ := h
  obtain ⟨pp, pn⟩ := gR_p gr
  obtain ⟨ex, eG, exl, exs⟩ := gR_s gr
  have hG : gX2 G G3 := by rw [eG]; exact gX2_app
  have h1 : hT G3 R3 T1 (g + 10) o m E := hT_m uh hG (fun i => fR1 _ _ (Or.inl (by omega))) (fun c z1 z2 => fT1 c (by omega) (by omega) (by omega)) (fT1 o (by omega) (by omega) (by omega))
  have b1 : hB T1 (g + 10) o := hB_m ub (fun c z1 z2 => fT1 c (by omega) (by omega) (by omega)) (fT1 o (by omega) (by omega) (by omega))
  have ly1 : lay2 G3 R3 g := lay2_m uly hG ⟨fR1 _ _ (Or.inl (by omega)), fR1 _ _ (Or.inl (by omega))⟩ t1.ly h1.a.ly
  have w1 : fT G3 R3 T1 f := fT_m w hG (fun i => fR1 _ _ (Or.inl (by omega))) (fun c z1 z2 => fT1 c (by omega) (by omega) (by omega))
  have g1 : gI G3 R3 T1 g p' n' C' D' o m E := gI.mk (gT2.mk ly1 t1 h1) (by omega) (by omega) o1 (by omega) (pn n1) m1
  have fl : ∀ (V' : gV) (v : Int), TH T1 V' → (v ≠ 0 → D' ≤ C' ∧ pnT T1 g p' V' ∧ pnH T1 g o V' ∧ pnQ T1 g V' (fun _ => 0)) → gbP G R T g p n o m v (fun _ => 0) G3 R3 V' := fun V' v th' hv => ⟨T1, p', n', C', D', o, m, E, th', g1, hv, fun c z1 z2 z3 z4 => fT1 c (by omega) z2 (by omega), fun c i z => fR1 c i (Or.inl (by omega)), by omega, Or.inl rfl, ex, eG, by omega, by omega⟩
  refine ⟨v4, e4, by omega, fun z => ⟨0, rfl, by omega, _, fl _ _ th1 (fun q => absurd rfl q), ?_⟩, fun z => ⟨ly2_o ly1, g + 1, (ly2_0 ly1).1, ly3_o w1.ly, ?_⟩⟩
  · rcases tb with y | y
    · exact ⟨p', o, t1.rp, h1.ro, _, _, mkp, Or.inl ⟨rfl, _, _, y.2⟩⟩
    · exact absurd y.1 (by omega)
  obtain ⟨ws, hr, mu, tx⟩ : wS (fun j => V3 (g + 1 + 1) j) (fun m => V3 (g + 1 + 5) m) (V3 (g + 1) 2) (V3 (g + 1) 1) ∧ ris (fun j => V3 (g + 1 + 1) j) (V3 (g + 1) 1) ∧ isM (fun j => V3 (g + 1 + 1) j) (V3 (g + 1) 1) (pMul V3 (g + 1) p') ∧ tX V3 (g + 1) p' := by
    rcases tb with y | y
    · exact absurd y.1 z
    · exact y.2
  obtain ⟨pl3, pn3⟩ := pin z
  refine cwI_u (by omega) (find_x (V0 := V3) (V := V3) ⟨w1, t1, hD z, by omega, by omega, tx⟩ ⟨th1, Fr_0⟩) (fun v10 V9 h9 => ?_)
  obtain ⟨hv10, th9, f9, h90, tm⟩ := h9
  refine ⟨by omega, fun z2 => ⟨g + 10, (ly2_1 ly1).1, ly4_o h1.a.ly, ?_⟩, fun z2 => ⟨0, rfl, by omega, _, fl _ _ th9 (fun q => absurd rfl q), ?_⟩⟩
  · have fx : fnX V3 V9 f (g + 1) p' := by
      rcases tm with y | y
      · exact y.2.2
      · exact absurd y.1 z2
    obtain ⟨T1', eT⟩ : ∃ T1' : gT, T1' = upF T1 (g + 10) 1 (fun v => 0 ≤ v ∧ v ≤ 300) := ⟨_, rfl⟩
    have th9' : TH T1' V9 := by rw [eT]; exact TH_upF th9 (h1.a.cl _ (th9 _ _))
    have nu : ∀ c, c ≠ g + 10 → T1' c = T1 c := fun c hc => by rw [eT]; exact upF_n hc
    have n0 : T1' (g + 10) 0 = T1 (g + 10) 0 := by rw [eT]; exact upF_i (by omega)
    have ncl : ∀ v, T1' (g + 10) 1 v ↔ 0 ≤ v ∧ v ≤ 300 := fun v => by rw [eT]; exact upF_s
    have a1 : hA G3 R3 T1' (g + 10) := hA.mk h1.a.ly (by rw [n0]; exact h1.a.cn) (fun v => (ncl v).mp) (by rw [nu _ (by omega)]; exact h1.a.sz) (by rw [nu _ (by omega)]; exact h1.a.co) (by rw [nu _ (by omega)]; exact h1.a.mb) (by rw [nu _ (by omega)]; exact h1.a.de) (by rw [nu _ (by omega)]; exact h1.a.fi) (by rw [nu _ (by omega)]; exact h1.a.nu) (by rw [nu _ (by omega)]; exact h1.a.sp) (by rw [nu _ (by omega)]; exact h1.a.so)
    have b1' : hB T1' (g + 10) o := hB.mk (by rw [n0]; exact b1.cn) (by rw [nu _ (by omega)]; exact b1.lo) (by rw [nu _ (by omega)]; exact b1.hi) (by rw [nu _ (by omega)]; exact b1.sz) (by rw [nu _ (by omega)]; exact b1.co) (by rw [nu _ (by omega)]; exact b1.mb) (by rw [nu _ (by omega)]; exact b1.fi) (by rw [nu _ (by omega)]; exact b1.nu) (by rw [nu _ (by omega)]; exact b1.si) (by rw [nu _ (by omega)]; exact b1.sp) (by rw [nu _ (by omega)]; exact b1.so) (by rw [nu _ (by omega)]; exact b1.ov) (by rw [nu _ (by omega)]; exact b1.de)
    have w1' : fT G3 R3 T1' f := fT_m w1 gX2_refl (fun _ => rfl) (fun c z1 z2 => nu c (by omega))
    have t1' : tT G3 R3 T1' (g + 1) p' n' C' D' := tT_m t1 gX2_refl (fun _ => rfl) (fun c z1 z2 => nu c (by omega)) (nu p' (by omega))
    refine cw_mono (by omega) (fill_x a1 b1' ncl h1.ro h1.go h1.e0 h1.em w1' t1' (hD z) th9' tx fx (by omega) (by omega) hp' (by omega) (by omega) (by omega) (fun c hc i v q => by rw [nu c (by omega)] at q; exact pn3 c (by omega) i v q)) (fun r2 G4 R4 V4 h => ?_)
    obtain ⟨e5, T2a, o', m', E', th4a, h4a, ho', fT2a', fR2, gr2, pya, hx, hg, mem⟩ := h
    have gt3 := tx.2.2.1
    obtain ⟨qd, eqd⟩ : ∃ qd : Int → Int, qd = fun i => the (loP (V3 (g + 1) 1) (V4 (g + 10) 0) (hR V4 (g + 10)) (cmU (V3 (g + 1) 1) (pMul V3 (g + 1) p') (iI V3 (g + 1)) (hR V4 (g + 10) i))) := ⟨_, rfl⟩
    have so4 : srtS (V3 (g + 1) 1) (V4 (g + 10) 0) (hR V4 (g + 10)) := hx.2.1
    have qd4 : ∀ i, loP (V3 (g + 1) 1) (V4 (g + 10) 0) (hR V4 (g + 10)) (cmU (V3 (g + 1) 1) (pMul V3 (g + 1) p') (iI V3 (g + 1)) (hR V4 (g + 10) i)) (qd i) := fun i => by
      rw [eqd]
      exact the_s (lo_ex hx.1 so4 gt3 _)
    have hx3 := hx.1.2.1
    obtain ⟨T2, th4, h4, nT2, pq4⟩ := mem qd (fun i i0 i1 => by have := (qd4 i).1; omega)
    have fT2' : ∀ c, (c < g + 10 ∨ g + 10 + 11 < c) → c ≠ o → c ≠ o' → T2 c = T1' c := fun c z1 z2 z3 => by rw [nT2 c (by omega)]; exact fT2a' c z1 z2 z3
    have lo'x : o' ≠ g + 10 + 6 := by omega
    have py : pnY T2 (g + 10) o' V4 := ⟨fun c hc i v q => by rw [nT2 c (by omega)] at q; exact pya.1 c hc i v q, fun v q => by rw [nT2 _ (by omega)] at q; exact pya.2.1 v q, fun v q => by rw [nT2 _ (by omega)] at q; exact pya.2.2 v q⟩
    have fT2 : ∀ c, (c < g + 10 ∨ g + 10 + 11 < c) → c ≠ o → c ≠ o' → T2 c = T1 c := fun c z1 z2 z3 => by rw [fT2' c z1 z2 z3, nu c (by omega)]
    obtain ⟨pp2, pn2⟩ := gR_p gr2
    obtain ⟨ex2, eG2, exl2, exs2⟩ := gR_s gr2
    have lp' := (List.getElem?_eq_some_iff.mp t1.gp).1
    have l3 : G.length ≤ G3.length := by rw [eG, List.length_append]; omega
    have hG2 : gX2 G3 G4 := by rw [eG2]; exact gX2_app
    have t4 : tT G4 R4 T2 (g + 1) p' n' C' D' := tT_m t1 hG2 (fun i => fR2 _ _ (Or.inl (by omega))) (fun c z1 z2 => fT2 c (by omega) (by omega) (by omega)) (fT2 p' (by omega) (by omega) (by omega))
    have ly4 : lay2 G4 R4 g := lay2_m ly1 hG2 ⟨fR2 _ _ (Or.inl (by omega)), fR2 _ _ (Or.inl (by omega))⟩ t4.ly h4.a.ly
    have lpo : p' ≠ o := by omega
    have eq : ∀ c, ((g + 1 ≤ c ∧ c ≤ g + 8) ∨ c = p') → T2 c = T1 c := fun c hc => by
      rcases hc with hc | hc
      · exact fT2 c (by omega) (by omega) (by omega)
      · rw [hc]; exact fT2 p' (by omega) (by omega) (by omega)
    have eV : ∀ c, ((g + 1 ≤ c ∧ c ≤ g + 8) ∨ c = p') → ∀ i, V4 c i = V3 c i := fun c hc i => by
      have := th4 c i
      rw [eq c hc] at this
      exact pn3 c (by omega) i _ this
    have pn4 : pnT T2 g p' V4 := fun c hc i v hv => by
      rw [eq c hc] at hv
      rw [eV c hc i]
      exact pn3 c (by omega) i v hv
    have e1 : V4 (g + 1) 1 = V3 (g + 1) 1 := eV _ (by omega) _
    have e0 : V4 (g + 1) 0 = V3 (g + 1) 0 := eV _ (by omega) _
    have ef : (fun j => V4 (g + 1 + 1) j) = fun j => V3 (g + 1 + 1) j := funext (fun j => eV _ (by omega) j)
    have em : ∀ s t, 0 ≤ s → s < V3 (g + 1) 1 → 0 ≤ t → t < V3 (g + 1) 1 → pMul V3 (g + 1) p' s t = (fun s t => dV V4 g p' o' qd (2 + s) t) s t := fun s t s0 s1 t0 t1 => by
      show V3 p' (s * V3 (g + 1) 1 + t) = dV V4 g p' o' qd (2 + s) t
      rw [dV_m s0 (by have := tx.1; omega), e1, eV p' (Or.inr rfl)]
    refine ⟨e5, 1, rfl, by omega, qd, ⟨T2, p', n', C', D', o', m', E', th4, gI.mk (gT2.mk ly4 t4 h4) (by omega) (by omega) (by omega) (by omega) (pn n1) (pn2 m1), fun _ => ⟨hD z, pn4, ⟨fun c hc => py.1 c (by omega), py.2.1, py.2.2⟩, pq4⟩, fun c z1 z2 z3 z4 => ?_, fun c i z1 => ?_, by omega, by omega, ex ++ ex2, by rw [eG2, eG, List.append_assoc], by rw [List.length_append]; omega, by rw [szG_app]; omega⟩, ?_⟩
    · rw [fT2 c (by omega) z3 (by omega), fT1 c (by omega) z2 (by omega)]
    · rw [fR2 c i (Or.inl (by omega)), fR1 c i (Or.inl (by omega))]
    · refine ⟨p', o', t4.rp, h4.ro, _, _, mkp, Or.inr (Or.inr ⟨rfl, ?_, ?_, ?_, ?_, ?_, ?_⟩)⟩
      · rw [dV_1, dV_01, ef, e1]; exact ws
      · rw [dV_1, dV_01, ef, e1]; exact hr
      · rw [dV_1, dV_01, ef, e1]
        intro s t s0 s1 t0 t1
        rw [← em s t s0 s1 t0 t1]
        exact mu s t s0 s1 t0 t1
      · rw [dV_01, e1]
        intro q
        rcases tm with y | y
        · exact y.2.1 (many_mul (fun s t a b c d => (em s t a b c d).symm) q)
        · exact absurd y.1 z2
      · rw [dV_00, e0]; exact pl3
      · have eI : iI V3 (g + 1) = fun t => V4 (g + 3) t := funext (fun t => (eV (g + 3) (by omega) t).symm)
        have od3 := tx.2.2.2.1
        rw [eI] at hg
        have eI' : (fun t => V3 (g + 1 + 2) t) = fun t => V4 (g + 3) t := eI
        rw [eI'] at gt3
        rw [eI, ← e1] at qd4
        rw [← e1] at hx em hg gt3 od3
        refine hsX_V gt3 em hx hg (fun t t0 t1 => ?_) (fun i _ _ => qd4 i)
        have q := od3 t t0 t1
        have eo : V4 (g + 4) t = V3 (g + 1 + 3) t := eV (g + 4) (by omega) t
        rw [eo]
        exact ⟨q.2, q.1⟩
  · refine ⟨p', o, t1.rp, h1.ro, _, _, mkp, Or.inr (Or.inl ⟨rfl, _, _, _, ws, hr, mu, ?_⟩)⟩
    rcases tm with y | y
    · exact absurd y.1 (by omega)
    · exact y.2
end
