/-! the reference reads none but its own cells -/
section
variable {d : Nat} {G : List gS} {R V : gV} {M : Nat}
def gFm (V V' : gV) (M : Nat) : Prop := ∀ a i, (M ≤ a ∧ a ≤ M + 35 ∧ ¬ qW M a i) → V' a i = V a i
theorem stP_r {V' : gV} (gt : GT (V M 5) (mMul V M) (mInv V M)) (hN : V M 5 ≤ 120) (q : gFm V V' M) (h : stP V V M) : stP V' V' M := by
  have e5 : V' M 5 = V M 5 := q _ _ (by omega)
  have e12 : V' M 12 = V M 12 := q _ _ (by omega)
  have e13 : V' M 13 = V M 13 := q _ _ (by omega)
  have em : mMul V' M = mMul V M := funext (fun s => funext (fun t => q _ _ (by omega)))
  have ei : mInv V' M = mInv V M := funext (fun s => q _ _ (by omega))
  obtain ⟨⟨h1, h2, h3, h4, h5, h6, h7, h8⟩, h9⟩ := h
  have H3 := h2.2.1
  have rq : ∀ k, 0 ≤ k → k < V M 12 → req (V M 5) (mHas V M k) (mHas V' M k) := fun k k0 k1 t t0 t1 => (q _ _ (by omega)).symm
  refine ⟨⟨fun _ _ _ _ _ _ _ _ _ _ _ => rfl, ?_, ?_, ?_, ?_, ?_, ?_, ?_⟩, ?_⟩
  · rw [e5, e12, em]
    exact hps_congr gt rq (fun k k0 k1 => (q _ _ (by omega)).symm) h2
  · rw [e5, e12]
    intro a b a0 a1 b0 b1
    unfold ldP
    rw [e5, e12, em, ei, q (M + 13) (120 * a + b) (by omega)]
    have l := h3 a b a0 a1 b0 b1
    refine ⟨l.1, l.2.1, fun t t0 t1 => ?_⟩
    rw [← cj_congr gt (h2.2.2.1 a a0 a1).1.1 (rq a a0 a1) b t t0 t1, ← l.2.2 t t0 t1]
    exact (rq _ l.1 l.2.1 t t0 t1).symm
  · rw [e13]; exact h4
  · rw [e13, e12]; exact h5
  · rw [e12, e13]
    intro a a0 a1
    rw [q (M + 14) a (by omega)]; exact h6 a a0 a1
  · rw [e12, e13]
    intro a a0 a1
    rw [q (M + 15) a (by omega)]; exact h7 a a0 a1
  · rw [e5, em, ei, e13]; exact h8
  · rw [e13]
    intro a b a0 a1 b0 b1
    unfold tbP
    rw [q (M + 18) _ (by omega)]; exact h9 a b a0 a1 b0 b1
theorem GC_r {V' : gV} (q : gFm V V' M) (h : GC V M) : GC V' M := ⟨imI_congr (q _ _ (by omega)) (q _ _ (by omega)) (fun i => q _ _ (by omega)) (fun i => q _ _ (by omega)) (fun i => q _ _ (by omega)) h.1, stP_r (GC_N h).1 (GC_N h).2 q h.2⟩
theorem MI_r {V' : gV} (q : ∀ a i, M ≤ a → a ≤ M + 35 → V' a i = V a i) (h : MI V M) : MI V' M := by
  obtain ⟨h1, h2, h3, h4⟩ := h
  refine ⟨fun s s0 s1 => by rw [q _ _ (by omega) (by omega)]; exact h1 s s0 s1, GC_r (fun a i z => q a i z.1 z.2.1) h2, by rw [q _ _ (by omega) (by omega), q _ _ (by omega) (by omega)]; exact h3, kpI_congr (fun a i a0 a1 => q a i (by omega) (by omega)) h4⟩
end
/-! room -/
section
variable {G G' : List gS} {R R' V V' : gV} {h : zH} {B M S N : Nat} {W : gV} {L I : Int → Int}
theorem zsl_HR (hh : HR h G R V) : zsl h = szG G := by
  have e : h.map zsz = G.map gsz := by
    apply List.ext_getElem?
    intro a
    rw [List.getElem?_map, List.getElem?_map]
    cases hG : G[a]? with
    | none =>
      have : h[a]? = none := by
        rw [List.getElem?_eq_none_iff] at hG ⊢
        rw [hh.1]; exact hG
      rw [this]; rfl
    | some s =>
      cases s with
      | inl ci =>
        obtain ⟨fs, h1, h2, _⟩ := hh.2.1 a ci hG
        rw [h1]
        show some (fs.length) = some ((zkinds ci).length)
        rw [h2]
      | inr q =>
        obtain ⟨ty, n⟩ := q
        obtain ⟨f, h1, _⟩ := hh.2.2.1 a ty n hG
        rw [h1]; rfl
  unfold zsl szG
  rw [e]
theorem CI_room (h : CI G R V B M S N W L I) : G.length ≤ N ∧ szG G ≤ S + 2131000 := by
  obtain ⟨T, ow, us, w, h, hN⟩ := h
  refine ⟨hN, ?_⟩
  have g : ∀ i, i < 5 → w i ≤ 422600 := by
    intro i hi
    rcases h.gr i hi with q | ⟨g, _, _, p, n, C, D, o, m, E, a, _, _, _, _, e⟩
    · omega
    · have := a.n1
      have := a.m1
      omega
  have b : ∀ k, k < 3 → w (5 + k) ≤ 6000 := by
    intro k hk
    rcases h.im k hk with q | ⟨b, _, _, e, _⟩
    · omega
    · omega
  have g0 := g 0 (by omega)
  have g1 := g 1 (by omega)
  have g2 := g 2 (by omega)
  have g3 := g 3 (by omega)
  have g4 := g 4 (by omega)
  have b0 : w 5 ≤ 6000 := b 0 (by omega)
  have b1 : w 6 ≤ 6000 := b 1 (by omega)
  have b2 : w 7 ≤ 6000 := b 2 (by omega)
  have := h.sz
  unfold sw at this
  omega
theorem CI_W (h : CI G R V B M S N W L I) : ∀ a i, M ≤ a → a ≤ M + 35 → V a i = W a i := by
  obtain ⟨T, ow, us, w, h, hN⟩ := h
  exact fun a i z1 z2 => h.c.fz a i _ z1 z2 (h.th a i)
theorem CI_o (h : CI G R V B M S N W L I) : G[B]? = some (gO 7) ∧ lay8 G R M := by
  obtain ⟨T, ow, us, w, h, hN⟩ := h
  exact ⟨ly7_o h.c.ly, h.c.lm⟩
theorem CI_N {N' : Nat} (h : CI G R V B M S N W L I) (e : N ≤ N') : CI G R V B M S N' W L I := by
  obtain ⟨T, ow, us, w, h, hN⟩ := h
  exact ⟨T, ow, us, w, h, by omega⟩
theorem CI_md (h : CI G R V B M S N W L I) (hV : ∀ c i, ¬ (M ≤ c ∧ c ≤ M + 35) → V' c i = V c i) : CI G R V' B M S N V' L I := by
  obtain ⟨T, ow, us, w, h, hN⟩ := h
  obtain ⟨T', h'⟩ := cI_model h hV
  exact ⟨T', ow, us, w, h', hN⟩
end
/-! class and reference side by side -/
abbrev S0 : Nat := 300000
/-- the reference's sheets, as the class's are pinned: lengths, sorts from 10, numbers from 100 -/
def mL (V : gV) : Int → Int := fun j => if j < 10 then V 59 j else if j < 100 then V 58 (j - 10) else V 60 (j - 100)
theorem mL_e {V V' : gV} (h : ∀ a i, 58 ≤ a → a ≤ 60 → V' a i = V a i) : mL V' = mL V := by
  funext j
  unfold mL
  rw [h _ _ (by omega) (by omega), h _ _ (by omega) (by omega), h _ _ (by omega) (by omega)]
def JS (G : List gS) (R V : gV) (k : Nat) : Prop := CI G R V 0 57 S0 (93 + 117 * k) V (mL V) (fun i => V 85 i) ∧ MI V 57
abbrev RM (G : List gS) : Prop := G.length ≤ 60000 ∧ szG G ≤ 2500000
section
variable {G : List gS} {R V : gV} {k y z : Nat} {ac am : List zV} {L' I' : Int → Int} {Q1 Q2 : Option zV → Prop}
theorem JS_room (h : JS G R V k) (hk : k ≤ 512) : G[0]? = some (gO 7) ∧ RM G := by
  have e : S0 = 300000 := rfl
  have := CI_room h.1
  exact ⟨(CI_o h.1).1, by omega, by omega⟩
theorem jp (h : JS G R V k) (hk : k < 512) (a : CI G R V 0 57 S0 (93 + 117 * k) V (mL V) (fun i => V 85 i) → cw 8 (fun r G' R' V' => Q1 r ∧ CI G' R' V' 0 57 S0 (93 + 117 * (k + 1)) V L' I') y ac G R V) (b : ∀ (G1 : List gS) (R1 V1 : gV), lay8 G1 R1 57 → MI V1 57 → VR G1 V1 → (∀ a i, 58 ≤ a → a ≤ 60 → V1 a i = V a i) → (∀ i, V1 85 i = V 85 i) → cwv 8 (fun r V2 => Q2 r ∧ MI V2 57 ∧ (∀ a i, ¬ (57 ≤ a ∧ a ≤ 92) → V2 a i = V1 a i) ∧ (∀ j, mL V2 j = L' j) ∧ (∀ i, V2 85 i = I' i)) z am G1 R1 V1) : cw 8 (fun r G1 R1 V1 => Q1 r ∧ (G1[57]? = some (gO 8) ∧ RM G1) ∧ cw 8 (fun r2 G2 R2 V2 => Q2 r2 ∧ JS G2 R2 V2 (k + 1)) z am G1 R1 V1) y ac G R V := by
  refine cw_mono (Nat.le_refl _) (a h.1) (fun r G1 R1 V1 q => ?_)
  obtain ⟨q1, c1⟩ := q
  have w := CI_W c1
  have e : S0 = 300000 := rfl
  have rm := CI_room c1
  have ly := (CI_o c1).2
  refine ⟨q1, ⟨ly8_o ly, by omega, by omega⟩, cw_vr (fun vr => ?_)⟩
  refine cw_mono (Nat.le_refl _) (b G1 R1 V1 ly (MI_r w h.2) vr (fun a i a0 a1 => w a i (by omega) (by omega)) (fun i => w _ i (by omega) (by omega))) (fun r2 G2 R2 V2 q => ?_)
  obtain ⟨eG, eR, p2, m2, f2, l2, i2⟩ := q
  rw [eG, eR]
  refine ⟨p2, ?_, m2⟩
  have e1 : mL V2 = L' := funext l2
  have e2 : (fun i => V2 85 i) = I' := funext i2
  rw [e1, e2]
  exact CI_md c1 f2
theorem jm {V1 V2 : gV} (h : mP V1 V2 57) (l : ∀ a i, 58 ≤ a → a ≤ 60 → V1 a i = V a i) (i : ∀ i, V1 85 i = V 85 i) : MI V2 57 ∧ (∀ a i, ¬ (57 ≤ a ∧ a ≤ 92) → V2 a i = V1 a i) ∧ (∀ j, mL V2 j = mL V j) ∧ (∀ i, V2 85 i = V 85 i) := ⟨h.1, h.2.1, fun j => by rw [mL_e (V := V) (fun a i a0 a1 => (h.2.2.1 a i (by omega) (by omega)).trans (l a i a0 a1))], fun j => (h.2.2.2 j).trans (i j)⟩
theorem aI_j {d : Nat} {V1 : gV} {G1 : List gS} {R1 : gV} (w : aI d V1 57 z am G1 R1) (hd : d ≤ 8) (l : ∀ a i, 58 ≤ a → a ≤ 60 → V1 a i = V a i) (i : ∀ i, V1 85 i = V 85 i) : cwv 8 (fun r V2 => (∃ v, r = some (0, v)) ∧ MI V2 57 ∧ (∀ a i, ¬ (57 ≤ a ∧ a ≤ 92) → V2 a i = V1 a i) ∧ (∀ j, mL V2 j = mL V j) ∧ (∀ i, V2 85 i = V 85 i)) z am G1 R1 V1 := cwv_mono hd w (fun r V2 q => by obtain ⟨v, e, q⟩ := q; exact ⟨⟨v, e⟩, jm q l i⟩)
theorem aJ_j {d : Nat} {V1 : gV} {G1 : List gS} {R1 : gV} (w : aJ d V1 57 z am G1 R1) (hd : d ≤ 8) (l : ∀ a i, 58 ≤ a → a ≤ 60 → V1 a i = V a i) (i : ∀ i, V1 85 i = V 85 i) : cwv 8 (fun r V2 => (∃ v, r = some (2, v)) ∧ MI V2 57 ∧ (∀ a i, ¬ (57 ≤ a ∧ a ≤ 92) → V2 a i = V1 a i) ∧ (∀ j, mL V2 j = mL V j) ∧ (∀ i, V2 85 i = V 85 i)) z am G1 R1 V1 := cwv_mono hd w (fun r V2 q => by obtain ⟨v, e, q⟩ := q; exact ⟨⟨v, e⟩, jm q l i⟩)
theorem opI_j (w : cw 8 (fun r G' R' V' => ∃ v : Int, r = some (0, v) ∧ i32 v ∧ CI G' R' V' 0 57 S0 (93 + 117 * k) V (mL V) (fun i => V 85 i)) y ac G R V) : cw 8 (fun r G' R' V' => (∃ v, r = some (0, v)) ∧ CI G' R' V' 0 57 S0 (93 + 117 * (k + 1)) V (mL V) (fun i => V 85 i)) y ac G R V := cw_mono (Nat.le_refl _) w (fun r G' R' V' q => by obtain ⟨v, e, _, q⟩ := q; exact ⟨⟨v, e⟩, CI_N q (by omega)⟩)
theorem opJ_j (w : cw 8 (fun r G' R' V' => ∃ v : Int, r = some (2, v) ∧ i64 v ∧ CI G' R' V' 0 57 S0 (93 + 117 * k) V (mL V) (fun i => V 85 i)) y ac G R V) : cw 8 (fun r G' R' V' => (∃ v, r = some (2, v)) ∧ CI G' R' V' 0 57 S0 (93 + 117 * (k + 1)) V (mL V) (fun i => V 85 i)) y ac G R V := cw_mono (Nat.le_refl _) w (fun r G' R' V' q => by obtain ⟨v, e, _, q⟩ := q; exact ⟨⟨v, e⟩, CI_N q (by omega)⟩)
abbrev jR (Q1 Q2 : Option zV → Prop) (k y z : Nat) (as : List zV) (G : List gS) (R V : gV) : Prop := cw 8 (fun r G1 R1 V1 => Q1 r ∧ (G1[57]? = some (gO 8) ∧ RM G1) ∧ cw 8 (fun r2 G2 R2 V2 => Q2 r2 ∧ JS G2 R2 V2 (k + 1)) z ((4, ((57 : Nat) : Int)) :: as) G1 R1 V1) y ((4, ((0 : Nat) : Int)) :: as) G R V
abbrev qI : Option zV → Prop := fun r => ∃ v, r = some (0, v)
abbrev qL : Option zV → Prop := fun r => ∃ v, r = some (2, v)
abbrev qE (x : Int) : Option zV → Prop := fun r => r = some (0, x)
theorem j_sheet (h : JS G R V k) (hk : k < 512) {x1 x2 x3 : Int} (h1 : i32 x1) (h2 : i32 x2) (h3 : i32 x3) : jR (qE (shA x1 x2 x3)) (qE (shA x1 x2 x3)) k 103 162 [(0, x1), (0, x2), (0, x3)] G R V := by
  refine jp h hk (L' := shL (mL V) x1 x2 x3) (I' := fun i => V 85 i) (fun c => ?_) (fun G1 R1 V1 ly m vr l i => ?_)
  · refine cw_mono (by omega) (sheet_K c h1 h2 h3) (fun r G' R' V' q => ?_)
    obtain ⟨e1, e2, v, q1, q2, q3⟩ := q
    rw [e1, e2, q1, q2]
    exact ⟨rfl, CI_N q3 (by omega)⟩
  · refine cwv_mono (by omega) (sheet_c ly m h1 h2 h3) (fun r V' q => ?_)
    obtain ⟨v, q1, q2, q3, q4, q5, q6⟩ := q
    rw [q1, q2]
    refine ⟨rfl, q3, q4, fun j => ?_, fun j => (q5 j).trans (i j)⟩
    have e : ∀ a i, 58 ≤ a → a ≤ 60 → V' a i = shM V1 57 x1 x2 x3 a i := fun a i a0 a1 => q6 a i (by omega) (by omega)
    have ok0 : ¬ ((0 ≤ x1 ∧ x1 ≤ 3) ∧ (0 ≤ x2 ∧ x2 ≤ 2) ∧ x3 ≤ 8) ∨ ¬ ¬ ((0 ≤ x1 ∧ x1 ≤ 3) ∧ (0 ≤ x2 ∧ x2 ≤ 2) ∧ x3 ≤ 8) := by omega
    rcases ok0 with ok | ok
    · have e2 : mL V' = mL V := mL_e (fun a i a0 a1 => by rw [e a i a0 a1]; unfold shM; rw [if_pos ok]; exact l a i a0 a1)
      rw [e2]; unfold shL; rw [if_pos ok]
    · unfold shL mL
      rw [if_neg ok]
      by_cases j1 : j < 10
      · rw [if_pos j1, if_pos j1, e _ _ (by omega) (by omega)]
        unfold shM
        rw [if_neg ok, if_neg (show ¬ (59 = 57 + 1 ∧ j = x1) by omega), if_neg (show ¬ (59 = 57 + 3 ∧ 8 * x1 ≤ j ∧ j < 8 * x1 + 8) by omega), if_neg (show ¬ j = 10 + x1 by omega), if_neg (show ¬ (100 + 8 * x1 ≤ j ∧ j < 108 + 8 * x1) by omega), l _ _ (by omega) (by omega)]
        by_cases z : j = x1
        · rw [if_pos (show 59 = 57 + 2 ∧ j = x1 from ⟨rfl, z⟩), if_pos z]
        · rw [if_neg (show ¬ (59 = 57 + 2 ∧ j = x1) by omega), if_neg z]
      · rw [if_neg j1, if_neg j1, if_neg (show ¬ j = x1 by omega)]
        by_cases j2 : j < 100
        · rw [if_pos j2, if_pos j2, e _ _ (by omega) (by omega)]
          unfold shM
          rw [if_neg ok, if_neg (show ¬ (58 = 57 + 2 ∧ j - 10 = x1) by omega), if_neg (show ¬ (58 = 57 + 3 ∧ 8 * x1 ≤ j - 10 ∧ j - 10 < 8 * x1 + 8) by omega), if_neg (show ¬ (100 + 8 * x1 ≤ j ∧ j < 108 + 8 * x1) by omega), l _ _ (by omega) (by omega)]
          by_cases z : j = 10 + x1
          · rw [if_pos (show 58 = 57 + 1 ∧ j - 10 = x1 by omega), if_pos z]
          · rw [if_neg (show ¬ (58 = 57 + 1 ∧ j - 10 = x1) by omega), if_neg z]
        · rw [if_neg j2, if_neg j2, e _ _ (by omega) (by omega)]
          unfold shM
          rw [if_neg ok, if_neg (show ¬ (60 = 57 + 2 ∧ j - 100 = x1) by omega), if_neg (show ¬ (60 = 57 + 1 ∧ j - 100 = x1) by omega), if_neg (show ¬ j = 10 + x1 by omega), l _ _ (by omega) (by omega)]
          by_cases z : 100 + 8 * x1 ≤ j ∧ j < 108 + 8 * x1
          · rw [if_pos (show 60 = 57 + 3 ∧ 8 * x1 ≤ j - 100 ∧ j - 100 < 8 * x1 + 8 by omega), if_pos z]
          · rw [if_neg (show ¬ (60 = 57 + 3 ∧ 8 * x1 ≤ j - 100 ∧ j - 100 < 8 * x1 + 8) by omega), if_neg z]
theorem mL_s {V : gV} {s : Int} (h : s ≤ 3) : mL V s = V 59 s := by unfold mL; rw [if_pos (by omega)]
theorem mL_10 {V : gV} {s : Int} (h : 0 ≤ s ∧ s ≤ 3) : mL V (10 + s) = V 58 s := by unfold mL; rw [if_neg (by omega), if_pos (by omega), show 10 + s - 10 = s by omega]
theorem mL_100 {V : gV} {s : Int} (h : 0 ≤ s) : mL V (100 + s) = V 60 s := by unfold mL; rw [if_neg (by omega), if_neg (by omega), show 100 + s - 100 = s by omega]
theorem wr_AL {V1 : gV} (l : ∀ a i, 58 ≤ a → a ≤ 60 → V1 a i = V a i) {s i : Int} : wrA V1 57 s i = wrL (mL V) s i := by
  unfold wrA wrL
  by_cases z : ¬ (0 ≤ s ∧ s ≤ 3)
  · rw [if_pos z, if_pos z]
  · rw [if_neg z, if_neg z, mL_s (by omega), l _ _ (by omega) (by omega)]
theorem j_write (h : JS G R V k) (hk : k < 512) {x1 x2 x3 : Int} (h1 : i32 x1) (h2 : i32 x2) (h3 : i32 x3) : jR (qE (wrL (mL V) x1 x2)) (qE (wrL (mL V) x1 x2)) k 104 163 [(0, x1), (0, x2), (0, x3)] G R V := by
  refine jp h hk (L' := wnL (mL V) x1 x2 x3) (I' := fun i => V 85 i) (fun c => ?_) (fun G1 R1 V1 ly m vr l i => ?_)
  · refine cw_mono (by omega) (write_K c (fun s s0 s1 => by rw [mL_s s1]; exact (h.2.1 s s0 (by omega)).2) h1 h2 h3) (fun r G' R' V' q => ?_)
    obtain ⟨e1, e2, v, q1, q2, q3⟩ := q
    rw [e1, e2, q1, q2]
    exact ⟨rfl, CI_N q3 (by omega)⟩
  · refine cwv_mono (by omega) (write_c ly m h1 h2 h3) (fun r V' q => ?_)
    obtain ⟨v, q1, q2, q3, q4, q5, q6⟩ := q
    rw [q1, q2, wr_AL l]
    refine ⟨rfl, q3, q4, fun j => ?_, fun j => (q5 j).trans (i j)⟩
    have e : ∀ a i, 58 ≤ a → a ≤ 60 → V' a i = wrM V1 57 x1 x2 x3 a i := fun a i a0 a1 => q6 a i (by omega) (by omega)
    unfold wrM at e
    rw [wr_AL l] at e
    unfold wnL
    by_cases z : wrL (mL V) x1 x2 = 0 ∧ j = 100 + 8 * x1 + x2
    · have s0 : 0 ≤ x1 ∧ x1 ≤ 3 := by
        apply Classical.byContradiction
        intro y
        have := z.1
        unfold wrL at this
        rw [if_pos y] at this
        omega
      have i0 : 0 ≤ x2 := by
        apply Classical.byContradiction
        intro y
        have := z.1
        unfold wrL at this
        rw [if_neg (fun q => q s0)] at this
        by_cases y2 : mL V x1 = -1
        · rw [if_pos y2] at this; omega
        · rw [if_neg y2, if_pos (by omega)] at this; omega
      rw [if_pos z, z.2, show 100 + 8 * x1 + x2 = 100 + (8 * x1 + x2) by omega, mL_100 (by omega), e _ _ (by omega) (by omega), if_pos ⟨z.1, by omega, rfl⟩, l _ _ (by omega) (by omega), mL_10 s0]
    · rw [if_neg z]
      unfold mL
      by_cases j1 : j < 10
      · rw [if_pos j1, if_pos j1, e _ _ (by omega) (by omega), if_neg (by omega), l _ _ (by omega) (by omega)]
      · rw [if_neg j1, if_neg j1]
        by_cases j2 : j < 100
        · rw [if_pos j2, if_pos j2, e _ _ (by omega) (by omega), if_neg (by omega), l _ _ (by omega) (by omega)]
        · rw [if_neg j2, if_neg j2, e _ _ (by omega) (by omega), if_neg (fun y => z ⟨y.1, by omega⟩), l _ _ (by omega) (by omega)]
theorem j_count (h : JS G R V k) (hk : k < 512) {x1 : Int} (h1 : i32 x1) : jR qI qI k 106 182 [(0, x1)] G R V := jp h hk (L' := mL V) (I' := fun i => V 85 i) (fun c => opI_j (opI c (fun T g p n C D o m E u th => count_k u th h1))) (fun G1 R1 V1 ly m vr l i => aI_j (count_c ly m h1) (by omega) l i)
theorem j_turn (h : JS G R V k) (hk : k < 512) {x1 x2 : Int} (h1 : i32 x1) (h2 : i32 x2) : jR qI qI k 107 186 [(0, x1), (0, x2)] G R V := jp h hk (L' := mL V) (I' := fun i => V 85 i) (fun c => opI_j (opI c (fun T g p n C D o m E u th => turn_k u th h1 h2))) (fun G1 R1 V1 ly m vr l i => aI_j (turn_c ly m h1 h2) (by omega) l i)
theorem j_product (h : JS G R V k) (hk : k < 512) {x1 x2 : Int} (h1 : i32 x1) (h2 : i32 x2) : jR qI qI k 108 187 [(0, x1), (0, x2)] G R V := jp h hk (L' := mL V) (I' := fun i => V 85 i) (fun c => opI_j (opI c (fun T g p n C D o m E u th => product_k u th h1 h2))) (fun G1 R1 V1 ly m vr l i => aI_j (product_c ly m h1 h2) (by omega) l i)
theorem j_ofTurn (h : JS G R V k) (hk : k < 512) {x1 x2 : Int} (h1 : i32 x1) (h2 : i32 x2) : jR qI qI k 109 191 [(0, x1), (0, x2)] G R V := jp h hk (L' := mL V) (I' := fun i => V 85 i) (fun c => opI_j (opI c (fun T g p n C D o m E u th => ofTurn_k u th h1 h2))) (fun G1 R1 V1 ly m vr l i => aI_j (ofTurn_c ly m h1 h2) (by omega) l i)
theorem j_heap (h : JS G R V k) (hk : k < 512) {x1 x2 : Int} (h1 : i32 x1) (h2 : i32 x2) : jR qI qI k 110 199 [(0, x1), (0, x2)] G R V := jp h hk (L' := mL V) (I' := fun i => V 85 i) (fun c => opI_j (opI c (fun T g p n C D o m E u th => heap_k u th h1 h2))) (fun G1 R1 V1 ly m vr l i => aI_j (heap_c ly m h1 h2) (by omega) l i)
theorem j_has (h : JS G R V k) (hk : k < 512) {x1 x2 : Int} (h1 : i32 x1) (h2 : i32 x2) : jR qI qI k 111 200 [(0, x1), (0, x2)] G R V := jp h hk (L' := mL V) (I' := fun i => V 85 i) (fun c => opI_j (opI c (fun T g p n C D o m E u th => has_k u th h1 h2))) (fun G1 R1 V1 ly m vr l i => aI_j (has_c ly m h1 h2) (by omega) l i)
theorem j_join (h : JS G R V k) (hk : k < 512) {x1 x2 x3 : Int} (h1 : i32 x1) (h2 : i32 x2) (h3 : i32 x3) : jR qI qI k 112 201 [(0, x1), (0, x2), (0, x3)] G R V := jp h hk (L' := mL V) (I' := fun i => V 85 i) (fun c => opI_j (opI c (fun T g p n C D o m E u th => join_k u th h1 h2 h3))) (fun G1 R1 V1 ly m vr l i => aI_j (join_c ly m h1 h2 h3) (by omega) l i)
theorem j_ofClass (h : JS G R V k) (hk : k < 512) {x1 x2 : Int} (h1 : i32 x1) (h2 : i32 x2) : jR qI qI k 113 202 [(0, x1), (0, x2)] G R V := jp h hk (L' := mL V) (I' := fun i => V 85 i) (fun c => opI_j (opI c (fun T g p n C D o m E u th => ofClass_k u th h1 h2))) (fun G1 R1 V1 ly m vr l i => aI_j (ofClass_c ly m h1 h2) (by omega) l i)
theorem j_within (h : JS G R V k) (hk : k < 512) {x1 x2 x3 : Int} (h1 : i32 x1) (h2 : i32 x2) (h3 : i32 x3) : jR qI qI k 114 203 [(0, x1), (0, x2), (0, x3)] G R V := jp h hk (L' := mL V) (I' := fun i => V 85 i) (fun c => opI_j (opI c (fun T g p n C D o m E u th => within_k u th h1 h2 h3))) (fun G1 R1 V1 ly m vr l i => aI_j (within_c ly m h1 h2 h3) (by omega) l i)
theorem j_table (h : JS G R V k) (hk : k < 512) {x1 x2 : Int} (h1 : i32 x1) (h2 : i32 x2) : jR qI qI k 115 204 [(0, x1), (0, x2)] G R V := jp h hk (L' := mL V) (I' := fun i => V 85 i) (fun c => opI_j (opI c (fun T g p n C D o m E u th => table_k u th h1 h2))) (fun G1 R1 V1 ly m vr l i => aI_j (table_c ly m h1 h2) (by omega) l i)
theorem j_sylow (h : JS G R V k) (hk : k < 512) {x1 : Int} (h1 : i32 x1) : jR qI qI k 116 205 [(0, x1)] G R V := jp h hk (L' := mL V) (I' := fun i => V 85 i) (fun c => opI_j (opI c (fun T g p n C D o m E u th => sylow_k u th h1))) (fun G1 R1 V1 ly m vr l i => aI_j (sylow_c ly m h1) (by omega) l i)
theorem j_down (h : JS G R V k) (hk : k < 512) {x1 : Int} (h1 : i32 x1) : jR qI qI k 117 206 [(0, x1)] G R V := jp h hk (L' := mL V) (I' := fun i => V 85 i) (fun c => opI_j (opI c (fun T g p n C D o m E u th => down_k u th h1))) (fun G1 R1 V1 ly m vr l i => aI_j (down_c ly m h1) (by omega) l i)
theorem j_simple (h : JS G R V k) (hk : k < 512)  : jR qI qI k 118 207 [] G R V := jp h hk (L' := mL V) (I' := fun i => V 85 i) (fun c => opI_j (opI c (fun T g p n C D o m E u th => simple_k u th ))) (fun G1 R1 V1 ly m vr l i => aI_j (simple_c ly m ) (by omega) l i)
theorem j_coset (h : JS G R V k) (hk : k < 512) {x1 x2 : Int} (h1 : i32 x1) (h2 : i32 x2) : jR qL qL k 119 214 [(0, x1), (0, x2)] G R V := jp h hk (L' := mL V) (I' := fun i => V 85 i) (fun c => opJ_j (opJ c (fun T g p n C D o m E u th => coset_k u th h1 h2))) (fun G1 R1 V1 ly m vr l i => aJ_j (coset_c ly m h1 h2) (by omega) l i)
theorem j_places (h : JS G R V k) (hk : k < 512) {x1 x2 x3 : Int} (h1 : i32 x1) (h2 : i32 x2) (h3 : i32 x3) : jR qL qL k 120 218 [(0, x1), (0, x2), (0, x3)] G R V := jp h hk (L' := mL V) (I' := fun i => V 85 i) (fun c => opJ_j (opJ c (fun T g p n C D o m E u th => places_k u th h1 h2 h3))) (fun G1 R1 V1 ly m vr l i => aJ_j (places_c ly m h1 h2 h3) (by omega) l i)
theorem j_heaps (h : JS G R V k) (hk : k < 512) {x1 : Int} (h1 : i32 x1) : jR qL qL k 121 219 [(0, x1)] G R V := jp h hk (L' := mL V) (I' := fun i => V 85 i) (fun c => opJ_j (opJ c (fun T g p n C D o m E u th => heaps_k u th h1))) (fun G1 R1 V1 ly m vr l i => aJ_j (mheaps_c ly m h1) (by omega) l i)
theorem j_both (h : JS G R V k) (hk : k < 512) {x1 x2 x3 x4 : Int} (h1 : i32 x1) (h2 : i32 x2) (h3 : i32 x3) (h4 : i32 x4) : jR qL qL k 122 221 [(0, x1), (0, x2), (0, x3), (0, x4)] G R V := jp h hk (L' := mL V) (I' := fun i => V 85 i) (fun c => opJ_j (opJ c (fun T g p n C D o m E u th => both_k u th h1 h2 h3 h4))) (fun G1 R1 V1 ly m vr l i => aJ_j (both_c ly m h1 h2 h3 h4) (by omega) l i)
theorem j_colour (h : JS G R V k) (hk : k < 512) {x1 x2 x3 : Int} (h1 : i32 x1) (h2 : i32 x2) (h3 : i32 x3) : jR qL qL k 123 224 [(0, x1), (0, x2), (0, x3)] G R V := jp h hk (L' := mL V) (I' := fun i => V 85 i) (fun c => opJ_j (opJ c (fun T g p n C D o m E u th => colour_k u th h1 h2 h3))) (fun G1 R1 V1 ly m vr l i => aJ_j (colour_c ly m h1 h2 h3) (by omega) l i)
theorem j_many (h : JS G R V k) (hk : k < 512) {x1 x2 x3 : Int} (h1 : i32 x1) (h2 : i32 x2) (h3 : i32 x3) : jR qL qL k 124 225 [(0, x1), (0, x2), (0, x3)] G R V := jp h hk (L' := mL V) (I' := fun i => V 85 i) (fun c => opJ_j (opJ c (fun T g p n C D o m E u th => many_k u th h1 h2 h3))) (fun G1 R1 V1 ly m vr l i => aJ_j (many_c ly m h1 h2 h3) (by omega) l i)
theorem j_parts (h : JS G R V k) (hk : k < 512) {x1 x2 : Int} (h1 : i32 x1) (h2 : i32 x2) : jR qL qL k 125 226 [(0, x1), (0, x2)] G R V := jp h hk (L' := mL V) (I' := fun i => V 85 i) (fun c => opJ_j (opJ c (fun T g p n C D o m E u th => parts_k u th h1 h2))) (fun G1 R1 V1 ly m vr l i => aJ_j (parts_c ly m h1 h2) (by omega) l i)
theorem j_mark (h : JS G R V k) (hk : k < 512) {x1 x2 : Int} (h1 : i32 x1) (h2 : i32 x2) : jR qL qL k 126 227 [(0, x1), (0, x2)] G R V := jp h hk (L' := mL V) (I' := fun i => V 85 i) (fun c => opJ_j (opJ c (fun T g p n C D o m E u th => mark_k u th h1 h2))) (fun G1 R1 V1 ly m vr l i => aJ_j (mark_c ly m h1 h2) (by omega) l i)
theorem j_act (h : JS G R V k) (hk : k < 512) {x1 x2 x3 : Int} (h1 : i32 x1) (h2 : i32 x2) (h3 : i32 x3) : jR qL qL k 127 229 [(0, x1), (0, x2), (0, x3)] G R V := jp h hk (L' := mL V) (I' := fun i => V 85 i) (fun c => opJ_j (opJ c (fun T g p n C D o m E u th => act_k u th h1 h2 h3))) (fun G1 R1 V1 ly m vr l i => aJ_j (act_c ly m h1 h2 h3) (by omega) l i)
theorem j_same (h : JS G R V k) (hk : k < 512) {x1 x2 : Int} (h1 : i32 x1) (h2 : i32 x2) : jR qI qI k 128 230 [(0, x1), (0, x2)] G R V := jp h hk (L' := mL V) (I' := fun i => V 85 i) (fun c => opI_j (opI c (fun T g p n C D o m E u th => same_k u th h1 h2))) (fun G1 R1 V1 ly m vr l i => aI_j (same_c ly m h1 h2) (by omega) l i)
theorem j_maps (h : JS G R V k) (hk : k < 512) {x1 x2 x3 : Int} (h1 : i32 x1) (h2 : i32 x2) (h3 : i32 x3) : jR qL qL k 129 231 [(0, x1), (0, x2), (0, x3)] G R V := jp h hk (L' := mL V) (I' := fun i => V 85 i) (fun c => opJ_j (opJ c (fun T g p n C D o m E u th => maps_k u th h1 h2 h3))) (fun G1 R1 V1 ly m vr l i => aJ_j (maps_c ly m h1 h2 h3) (by omega) l i)
theorem j_row (h : JS G R V k) (hk : k < 512) {x1 : Int} (h1 : i64 x1) : jR qI qI k 130 232 [(2, x1)] G R V := jp h hk (L' := mL V) (I' := fun i => V 85 i) (fun c => opI_j (opI c (fun T g p n C D o m E u th => row_k u th h1))) (fun G1 R1 V1 ly m vr l i => aI_j (mrow_c ly m h1) (by omega) l i)
theorem j_check (h : JS G R V k) (hk : k < 512) {x1 : Int} (h1 : i32 x1) : jR qI qI k 131 233 [(0, x1)] G R V := jp h hk (L' := mL V) (I' := fun i => V 85 i) (fun c => opI_j (opI c (fun T g p n C D o m E u th => check_k u th h1))) (fun G1 R1 V1 ly m vr l i => aI_j (mcheck_c ly m h1) (by omega) l i)
theorem j_misfit (h : JS G R V k) (hk : k < 512)  : jR qI qI k 132 234 [] G R V := jp h hk (L' := mL V) (I' := fun i => V 85 i) (fun c => opI_j (opI c (fun T g p n C D o m E u th => misfit_k u th ))) (fun G1 R1 V1 ly m vr l i => aI_j (misfit_c ly m ) (by omega) l i)
theorem j_chance (h : JS G R V k) (hk : k < 512) {x1 x2 : Int} (h1 : i32 x1) (h2 : i32 x2) : jR qL qL k 133 237 [(0, x1), (0, x2)] G R V := jp h hk (L' := mL V) (I' := fun i => V 85 i) (fun c => opJ_j (opJ c (fun T g p n C D o m E u th => chance_k u th h1 h2))) (fun G1 R1 V1 ly m vr l i => aJ_j (chance_c ly m h1 h2) (by omega) l i)
theorem j_rank (h : JS G R V k) (hk : k < 512)  : jR qI qI k 134 238 [] G R V := jp h hk (L' := mL V) (I' := fun i => V 85 i) (fun c => opI_j (opI c (fun T g p n C D o m E u th => rank_k u th ))) (fun G1 R1 V1 ly m vr l i => aI_j (rank_c ly m ) (by omega) l i)
theorem j_image (h : JS G R V k) (hk : k < 512) {x1 : Int} (h1 : i32 x1) : jR (qE (imA x1)) (qE (imA x1)) k 135 239 [(0, x1)] G R V := by
  refine jp h hk (L' := mL V) (I' := imL (fun i => V 85 i) x1) (fun c => ?_) (fun G1 R1 V1 ly m vr l i => ?_)
  · refine cw_mono (by omega) (image_K c h1) (fun r G' R' V' q => ?_)
    obtain ⟨v, q1, q2, q3⟩ := q
    rw [q1, q2]
    exact ⟨rfl, CI_N q3 (by omega)⟩
  · refine cwv_mono (by omega) (mimage_c ly m h1) (fun r V' q => ?_)
    obtain ⟨v, q1, q2, q3, q4, q5, q6⟩ := q
    rw [q1, q2]
    refine ⟨rfl, q3, q4, fun j => by rw [mL_e (V := V) (fun a i a0 a1 => (q5 a i (by omega) (by omega)).trans (l a i a0 a1))], fun j => ?_⟩
    rw [q6 j, i j]
    rfl
theorem j_back (h : JS G R V k) (hk : k < 512) {x1 : Int} (h1 : i32 x1) : jR (qE (bkL (fun i => V 85 i) x1)) (qE (bkL (fun i => V 85 i) x1)) k 136 240 [(0, x1)] G R V := by
  refine jp h hk (L' := mL V) (I' := fun i => V 85 i) (fun c => ?_) (fun G1 R1 V1 ly m vr l i => ?_)
  · refine cw_mono (by omega) (back_K c h1) (fun r G' R' V' q => ?_)
    obtain ⟨v, q1, q2, q3⟩ := q
    rw [q1, q2]
    exact ⟨rfl, CI_N q3 (by omega)⟩
  · refine cwv_mono (by omega) (mback_c ly m h1) (fun r V' q => ?_)
    obtain ⟨v, q1, q2, q3⟩ := q
    rw [q1, q2]
    refine ⟨?_, jm q3 l i⟩
    unfold bkA bkL
    rw [i x1]
theorem j_status (h : JS G R V k) (hk : k < 512)  : jR qI qI k 137 241 [] G R V := jp h hk (L' := mL V) (I' := fun i => V 85 i) (fun c => opI_j (opI c (fun T g p n C D o m E u th => status_k u th ))) (fun G1 R1 V1 ly m vr l i => aI_j (status_c ly m ) (by omega) l i)
end
