/-! the reference reads none but its own cells -/
section
variable {d : Nat} {G : List gS} {R V : gV} {M : Nat}
def gFm (V V' : gV) (M : Nat) : Prop := ∀ a i, (M ≤ a ∧ a ≤ M + 35 ∧ ¬ qW M a i) → V' a i = V a i
theorem stP_r {V' : gV} (gt : GT (V M 5) (mMul V M) (mInv V M)) (hN : V M 5 ≤ 120) (q : gFm V V' M) (h : stP V V M) : stP V' V' M := by
  have e5 : V' M 5 = V M 5 := q _ _ (by omega)
  have e12 : V' M 12 = V M 12 := q _ _ (by omega)
  have e13 : V' M 13 = V M 13 := q _ _ (by omega)
  have em : mMul V' M = mMul V M := funext (fun s => funext (fun t => q _ _ (by omega)))
  have ei : mInv V' M = mInv V M := funext (fun s => q _ _ (by omega))
  obtain ⟨⟨h1, h2, h3, h4, h5, h6, h7, h8⟩, h9, h10⟩ := h
  have H3 := h2.2.1
  have rq : ∀ k, 0 ≤ k → k < V M 12 → req (V M 5) (mHas V M k) (mHas V' M k) := fun k k0 k1 t t0 t1 => (q _ _ (by omega)).symm
  have sS : ∀ k, 0 ≤ k → k < V M 12 → SM (V M 5) (mMul V M) (mHas V M k) := fun k k0 k1 => (h2.2.2.1 k k0 k1).1
  refine ⟨⟨fun _ _ _ _ _ _ _ _ _ _ _ => rfl, ?_, ?_, ?_, ?_, ?_, ?_, ?_⟩, ?_, ?_⟩
  · rw [e5, e12, em]
    exact hps_congr gt rq (fun k k0 k1 => (q _ _ (by omega)).symm) h2
  · rw [e5, e12]
    intro a b a0 a1 b0 b1
    unfold ldP
    rw [e5, e12, em, ei, q (M + 13) (120 * a + b) (by omega)]
    have l := h3 a b a0 a1 b0 b1
    refine ⟨l.1, l.2.1, fun t t0 t1 => ?_⟩
    rw [← cj_congr gt (h2.2.2.1 a a0 a1).1.1 (rq a a0 a1) b t t0 t1, ← l.2.2 t t0 t1]
    exact (rq _ l.1 l.2.1 t t0 t1).symm
  · rw [e13]; exact h4
  · rw [e13, e12]; exact h5
  · rw [e12, e13]
    intro a a0 a1
    rw [q (M + 14) a (by omega)]; exact h6 a a0 a1
  · rw [e12, e13]
    intro a a0 a1
    rw [q (M + 15) a (by omega)]; exact h7 a a0 a1
  · refine ⟨by rw [e5, em, ei, e13]; exact h8.1, by rw [e5, e12]; exact srt_c rq h8.2.1, ?_⟩
    have f : ∀ b, M + 14 ≤ b → b ≤ M + 16 → (fun x => V' b x) = fun x => V b x := fun b q1 q2 => funext (fun x => q _ _ (by omega))
    rw [e5, e12, e13, em, ei, f (M + 14) (by omega) (by omega), f (M + 15) (by omega) (by omega), f (M + 16) (by omega) (by omega)]
    exact cl_c gt sS rq h8.2.2
  · rw [e13]
    intro a b a0 a1 b0 b1
    unfold tbP
    have w := h9 a b a0 a1 b0 b1
    rw [q (M + 18) _ (by omega), e5, em, ei]
    refine ⟨w.1, w.2.1, w.2.2.1, w.2.2.2.trans ?_⟩
    exact tbx_c gt sS rq (h7 a a0 a1) (h7 b b0 b1) (q _ _ (by omega)) (q _ _ (by omega))
  · rw [e12]
    intro a a0 a1
    have w := h10 a a0 a1
    unfold sgX at w ⊢
    rw [q (M + 17) _ (by omega), e12, e5, w]
    exact congrArg jw (mu_S rq a0 a1)
theorem GC_r {V' : gV} (q : gFm V V' M) (h : GC V M) : GC V' M := ⟨imI_congr (q _ _ (by omega)) (q _ _ (by omega)) (fun i => q _ _ (by omega)) (fun i => q _ _ (by omega)) (fun i => q _ _ (by omega)) h.1, stP_r (GC_N h).1 (GC_N h).2 q h.2⟩
theorem MI_r {V' : gV} (q : ∀ a i, M ≤ a → a ≤ M + 35 → V' a i = V a i) (h : MI V M) : MI V' M := by
  obtain ⟨h1, h2, h3, h4⟩ := h
  refine ⟨fun s s0 s1 => by rw [q _ _ (by omega) (by omega)]; exact h1 s s0 s1, GC_r (fun a i z => q a i z.1 z.2.1) h2, by rw [q _ _ (by omega) (by omega), q _ _ (by omega) (by omega)]; exact h3, kpI_congr (fun a i a0 a1 => q a i (by omega) (by omega)) h4⟩
end
/-! room -/
section
variable {G G' : List gS} {R R' V V' : gV} {h : zH} {B M S N : Nat} {W : gV} {L : Int → Int} {I : Int → gD}
theorem zsl_HR (hh : HR h G R V) : zsl h = szG G := by
  have e : h.map zsz = G.map gsz := by
    apply List.ext_getElem?
    intro a
    rw [List.getElem?_map, List.getElem?_map]
    cases hG : G[a]? with
    | none =>
      have : h[a]? = none := by
        rw [List.getElem?_eq_none_iff] at hG ⊢
        rw [hh.1]; exact hG
      rw [this]; rfl
    | some s =>
      cases s with
      | inl ci =>
        obtain ⟨fs, h1, h2, _⟩ := hh.2.1 a ci hG
        rw [h1]
        show some (fs.length) = some ((zkinds ci).length)
        rw [h2]
      | inr q =>
        obtain ⟨ty, n⟩ := q
        obtain ⟨f, h1, _⟩ := hh.2.2.1 a ty n hG
        rw [h1]; rfl
  unfold zsl szG
  rw [e]
theorem CI_room (h : CI G R V B M S N W L I) : G.length ≤ N ∧ szG G ≤ S + 2131000 := by
  obtain ⟨T, ow, us, w, h, hN⟩ := h
  refine ⟨hN, ?_⟩
  have g : ∀ i, i < 5 → w i ≤ 422600 := by
    intro i hi
    rcases h.gr i hi with q | ⟨g, _, _, p, n, C, D, o, m, E, a, _, _, _, _, e⟩
    · omega
    · have := a.n1
      have := a.m1
      omega
  have b : ∀ k, k < 3 → w (5 + k) ≤ 6000 := by
    intro k hk
    rcases h.im k hk with q | ⟨b, _, _, e, _⟩
    · omega
    · omega
  have g0 := g 0 (by omega)
  have g1 := g 1 (by omega)
  have g2 := g 2 (by omega)
  have g3 := g 3 (by omega)
  have g4 := g 4 (by omega)
  have b0 : w 5 ≤ 6000 := b 0 (by omega)
  have b1 : w 6 ≤ 6000 := b 1 (by omega)
  have b2 : w 7 ≤ 6000 := b 2 (by omega)
  have := h.sz
  unfold sw at this
  omega
theorem CI_W (h : CI G R V B M S N W L I) : ∀ a i, M ≤ a → a ≤ M + 35 → V a i = W a i := by
  obtain ⟨T, ow, us, w, h, hN⟩ := h
  exact fun a i z1 z2 => h.c.fz a i _ z1 z2 (h.th a i)
theorem CI_o (h : CI G R V B M S N W L I) : G[B]? = some (gO 7) ∧ lay8 G R M := by
  obtain ⟨T, ow, us, w, h, hN⟩ := h
  exact ⟨ly7_o h.c.ly, h.c.lm⟩
theorem CI_N {N' : Nat} (h : CI G R V B M S N W L I) (e : N ≤ N') : CI G R V B M S N' W L I := by
  obtain ⟨T, ow, us, w, h, hN⟩ := h
  exact ⟨T, ow, us, w, h, by omega⟩
theorem CI_md (h : CI G R V B M S N W L I) (hV : ∀ c i, ¬ (M ≤ c ∧ c ≤ M + 35) → V' c i = V c i) : CI G R V' B M S N V' L I := by
  obtain ⟨T, ow, us, w, h, hN⟩ := h
  obtain ⟨T', h'⟩ := cI_model h hV
  exact ⟨T', ow, us, w, h', hN⟩
end
/-! class and reference side by side -/
abbrev S0 : Nat := 300000
/-- the reference's sheets, as the class's are pinned: lengths, sorts from 10, numbers from 100 -/
def mL (V : gV) : Int → Int := fun j => if j < 10 then V 59 j else if j < 100 then V 58 (j - 10) else if j < 200 then V 60 (j - 100) else if j = 200 then V 57 37 else 0
theorem mL_e {V V' : gV} (h : ∀ a i, 58 ≤ a → a ≤ 60 → V' a i = V a i) (h37 : V' 57 37 = V 57 37) : mL V' = mL V := by
  funext j
  unfold mL
  rw [h 59 _ (by omega) (by omega), h 58 _ (by omega) (by omega), h 60 _ (by omega) (by omega), h37]
/-- the reference's row, and those that it keeps -/
def rwB (V : gV) : gD := fun a i => if a = 0 then V 57 35 else if 0 ≤ i ∧ i < 300 then V 84 i else 0
def rwK (V : gV) (j : Int) : gD := fun a i => if a = 0 then V 91 j else if 0 ≤ i ∧ i < 300 then V 92 (300 * j + i) else 0
def mI (V : gV) (dd : Int → gD) : Int → gD := fun j => if j < 10 then dd j else if j < 20 then (fun _ _ => V 85 (j - 10)) else if j = 23 then rwB V else rwK V (j - 20)
abbrev rwQ (a : Nat) (i : Int) : Prop := (a = 57 ∧ i = 35) ∨ a = 84 ∨ a = 91 ∨ a = 92
theorem rwB_e {V V' : gV} (h0 : V' 57 35 = V 57 35) (h : ∀ i, V' 84 i = V 84 i) : rwB V' = rwB V := by
  funext a i
  unfold rwB
  rw [h0, h]
theorem rwK_e {V V' : gV} {j : Int} (h0 : V' 91 j = V 91 j) (h : ∀ i, 0 ≤ i → i < 300 → V' 92 (300 * j + i) = V 92 (300 * j + i)) : rwK V' j = rwK V j := by
  funext a i
  unfold rwK
  rw [h0]
  by_cases q : 0 ≤ i ∧ i < 300
  · rw [if_pos q, if_pos q, h i q.1 q.2]
  · rw [if_neg q, if_neg q]
theorem mI_e {V V' : gV} {dd : Int → gD} (h : ∀ i, V' 85 i = V 85 i) (r : ∀ a i, rwQ a i → V' a i = V a i) : mI V' dd = mI V dd := by
  funext j
  unfold mI
  rw [h, rwB_e (r 57 35 (by omega)) (fun i => r 84 i (by omega)), rwK_e (r 91 _ (by omega)) (fun i _ _ => r 92 _ (by omega))]
theorem mI_3 {V : gV} {dd : Int → gD} : mI V dd 3 = dd 3 := if_pos (by omega)
theorem mI_k {V : gV} {dd : Int → gD} {k : Int} (h : k < 10) : mI V dd k = dd k := if_pos h
theorem mI_10 {V : gV} {dd : Int → gD} {k : Int} (h : 0 ≤ k ∧ k < 10) : mI V dd (10 + k) = fun _ _ => V 85 k := by
  unfold mI
  rw [if_neg (by omega), if_pos (by omega), show 10 + k - 10 = k by omega]
theorem mI_j {V : gV} {dd : Int → gD} {j : Int} (h : 10 ≤ j ∧ j < 20) : mI V dd j = fun _ _ => V 85 (j - 10) := by
  unfold mI
  rw [if_neg (by omega), if_pos (by omega)]
theorem mI_23 {V : gV} {dd : Int → gD} : mI V dd 23 = rwB V := by
  unfold mI
  rw [if_neg (by omega), if_neg (by omega), if_pos rfl]
theorem mI_20 {V : gV} {dd : Int → gD} {j : Int} (h : 20 ≤ j) (n : j ≠ 23) : mI V dd j = rwK V (j - 20) := by
  unfold mI
  rw [if_neg (by omega), if_neg (by omega), if_neg n]
theorem rwB_0 {V : gV} : rwB V 0 0 = V 57 35 := if_pos rfl
theorem rwB_1 {V : gV} {i : Int} (h : 0 ≤ i ∧ i < 300) : rwB V 1 i = V 84 i := by
  unfold rwB
  rw [if_neg (by omega), if_pos h]
/-- two such are the same -/
theorem mI_x {V' : gV} {dd' : Int → gD} {F : Int → gD} (h1 : ∀ j, j < 10 → dd' j = F j) (h2 : ∀ j, 10 ≤ j → j < 20 → (fun _ _ => V' 85 (j - 10)) = F j) (h3 : rwB V' = F 23) (h4 : ∀ j, 20 ≤ j → j ≠ 23 → rwK V' (j - 20) = F j) : mI V' dd' = F := by
  funext j
  by_cases j1 : j < 10
  · rw [mI_k j1]; exact h1 j j1
  · by_cases j2 : j < 20
    · rw [mI_j ⟨by omega, j2⟩]; exact h2 j (by omega) j2
    · by_cases j3 : j = 23
      · rw [j3, mI_23]; exact h3
      · rw [mI_20 (by omega) j3]; exact h4 j (by omega) j3
/-- the class's groups are the reference's rows, on the bench and kept -/
def rfD (V : gV) (dd : Int → gD) : Prop := dEq (dd 3) (V 57 4) (V 57 5) (fun i => V 61 i) ∧ ∀ k, 0 ≤ k → k < 3 → V 85 k = 1 → dEq (dd k) (V 86 k) (V 87 k) (fun i => V 88 (960 * k + i))
theorem rfD_e {V V' : gV} {dd : Int → gD} (h4 : V' 57 4 = V 57 4) (h5 : V' 57 5 = V 57 5) (h61 : ∀ i, V' 61 i = V 61 i) (h8 : ∀ a i, 85 ≤ a → a ≤ 88 → V' a i = V a i) (h : rfD V dd) : rfD V' dd := by
  have e61 : (fun i => V' 61 i) = fun i => V 61 i := funext h61
  refine ⟨by rw [h4, h5, e61]; exact h.1, fun k k0 k1 q => ?_⟩
  rw [h8 _ _ (by omega) (by omega)] at q
  have e88 : (fun i => V' 88 (960 * k + i)) = fun i => V 88 (960 * k + i) := funext (fun i => h8 _ _ (by omega) (by omega))
  rw [h8 86 k (by omega) (by omega), h8 87 k (by omega) (by omega), e88]
  exact h.2 k k0 k1 q
def JS (G : List gS) (R V : gV) (k : Nat) : Prop := ∃ dd : Int → gD, CI G R V 0 57 S0 (93 + 117 * k) V (mL V) (mI V dd) ∧ MI V 57 ∧ rfD V dd
abbrev RM (G : List gS) : Prop := G.length ≤ 60000 ∧ szG G ≤ 2500000
/-- what the reference's call leaves, for the class's to go with -/
def jE (V1 : gV) (L' : Int → Int) (I' : Int → gD) (V2 : gV) : Prop := MI V2 57 ∧ (∀ a i, ¬ (57 ≤ a ∧ a ≤ 92) → V2 a i = V1 a i) ∧ mL V2 = L' ∧ ∃ dd', mI V2 dd' = I' ∧ rfD V2 dd'
def sP (V : gV) (dd : Int → gD) (L' : Int → Int) (I' : Int → gD) : Prop := L' = mL V ∧ I' = mI V dd
section
variable {G : List gS} {R V : gV} {k y z : Nat} {ac am : List zV} {L' : Int → Int} {I' : Int → gD} {dd : Int → gD} {Q1 Q2 : Option zV → Prop}
theorem JS_room (h : JS G R V k) (hk : k ≤ 512) : G[0]? = some (gO 7) ∧ RM G := by
  obtain ⟨dd, h, _⟩ := h
  have e : S0 = 300000 := rfl
  have := CI_room h
  exact ⟨(CI_o h).1, by omega, by omega⟩
theorem jp {P : (Int → gD) → (Int → Int) → (Int → gD) → Prop} (h : JS G R V k) (hk : k < 512) (a : ∀ dd, CI G R V 0 57 S0 (93 + 117 * k) V (mL V) (mI V dd) → MI V 57 → rfD V dd → cw 8 (fun r G' R' V' => Q1 r ∧ ∃ L' I', CI G' R' V' 0 57 S0 (93 + 117 * (k + 1)) V L' I' ∧ P dd L' I') y ac G R V) (b : ∀ (dd : Int → gD) (L' : Int → Int) (I' : Int → gD) (G1 : List gS) (R1 V1 : gV), rfD V dd → P dd L' I' → lay8 G1 R1 57 → MI V1 57 → VR G1 V1 → (∀ a i, 57 ≤ a → a ≤ 92 → V1 a i = V a i) → cwv 8 (fun r V2 => Q2 r ∧ jE V1 L' I' V2) z am G1 R1 V1) : cw 8 (fun r G1 R1 V1 => Q1 r ∧ (G1[57]? = some (gO 8) ∧ RM G1) ∧ cw 8 (fun r2 G2 R2 V2 => Q2 r2 ∧ JS G2 R2 V2 (k + 1)) z am G1 R1 V1) y ac G R V := by
  obtain ⟨dd, hc, hm, rf⟩ := h
  refine cw_mono (Nat.le_refl _) (a dd hc hm rf) (fun r G1 R1 V1 q => ?_)
  obtain ⟨q1, L', I', c1, hp⟩ := q
  have w := CI_W c1
  have e : S0 = 300000 := rfl
  have rm := CI_room c1
  have ly := (CI_o c1).2
  refine ⟨q1, ⟨ly8_o ly, by omega, by omega⟩, cw_vr (fun vr => ?_)⟩
  refine cw_mono (Nat.le_refl _) (b dd L' I' G1 R1 V1 rf hp ly (MI_r w hm) vr (fun a i a0 a1 => w a i (by omega) (by omega))) (fun r2 G2 R2 V2 q => ?_)
  obtain ⟨eG, eR, p2, m2, f2, l2, dd', i2, rf'⟩ := q
  rw [eG, eR]
  refine ⟨p2, dd', ?_, m2, rf'⟩
  rw [l2, i2]
  exact CI_md c1 f2
theorem jm {V1 V2 : gV} (h : mQ V1 V2 57) (l : ∀ a i, 57 ≤ a → a ≤ 92 → V1 a i = V a i) (rf : rfD V dd) (hp : sP V dd L' I') : jE V1 L' I' V2 := by
  obtain ⟨⟨p1, p2, p3, p4⟩, ⟨k1, k2, k3, k4⟩, kr⟩ := h
  refine ⟨p1, p2, ?_, dd, ?_, rfD_e (k1.trans (l _ _ (by omega) (by omega))) (k2.trans (l _ _ (by omega) (by omega))) (fun i => (k3 i).trans (l _ _ (by omega) (by omega))) (fun a i a0 a1 => ?_) rf⟩
  · rw [hp.1]; exact mL_e (fun a i a0 a1 => (p3 a i (by omega) (by omega)).trans (l a i (by omega) (by omega))) ((kr 57 37 (by omega)).trans (l _ _ (by omega) (by omega)))
  · rw [hp.2]; exact mI_e (fun i => (p4 i).trans (l _ _ (by omega) (by omega))) (fun a i q => (kr a i (by omega)).trans (l _ _ (by omega) (by omega)))
  · by_cases q : a = 85
    · rw [q]; exact (p4 i).trans (l _ _ (by omega) (by omega))
    · exact (k4 a i (by omega) (by omega)).trans (l _ _ (by omega) (by omega))
theorem aI_j {d : Nat} {V1 : gV} {G1 : List gS} {R1 : gV} (w : aI d V1 57 z am G1 R1) (hd : d ≤ 8) (l : ∀ a i, 57 ≤ a → a ≤ 92 → V1 a i = V a i) (rf : rfD V dd) (hp : sP V dd L' I') : cwv 8 (fun r V2 => (∃ v, r = some (0, v)) ∧ jE V1 L' I' V2) z am G1 R1 V1 := cwv_mono hd w (fun r V2 q => by obtain ⟨v, e, q⟩ := q; exact ⟨⟨v, e⟩, jm q l rf hp⟩)
theorem aJ_j {d : Nat} {V1 : gV} {G1 : List gS} {R1 : gV} (w : aJ d V1 57 z am G1 R1) (hd : d ≤ 8) (l : ∀ a i, 57 ≤ a → a ≤ 92 → V1 a i = V a i) (rf : rfD V dd) (hp : sP V dd L' I') : cwv 8 (fun r V2 => (∃ v, r = some (2, v)) ∧ jE V1 L' I' V2) z am G1 R1 V1 := cwv_mono hd w (fun r V2 q => by obtain ⟨v, e, q⟩ := q; exact ⟨⟨v, e⟩, jm q l rf hp⟩)
theorem opI_j (w : cw 8 (fun r G' R' V' => ∃ v : Int, r = some (0, v) ∧ i32 v ∧ CI G' R' V' 0 57 S0 (93 + 117 * k) V (mL V) (mI V dd)) y ac G R V) : cw 8 (fun r G' R' V' => (∃ v, r = some (0, v)) ∧ ∃ L' I', CI G' R' V' 0 57 S0 (93 + 117 * (k + 1)) V L' I' ∧ sP V dd L' I') y ac G R V := cw_mono (Nat.le_refl _) w (fun r G' R' V' q => by obtain ⟨v, e, _, q⟩ := q; exact ⟨⟨v, e⟩, _, _, CI_N q (by omega), rfl, rfl⟩)
theorem opJ_j (w : cw 8 (fun r G' R' V' => ∃ v : Int, r = some (2, v) ∧ i64 v ∧ CI G' R' V' 0 57 S0 (93 + 117 * k) V (mL V) (mI V dd)) y ac G R V) : cw 8 (fun r G' R' V' => (∃ v, r = some (2, v)) ∧ ∃ L' I', CI G' R' V' 0 57 S0 (93 + 117 * (k + 1)) V L' I' ∧ sP V dd L' I') y ac G R V := cw_mono (Nat.le_refl _) w (fun r G' R' V' q => by obtain ⟨v, e, _, q⟩ := q; exact ⟨⟨v, e⟩, _, _, CI_N q (by omega), rfl, rfl⟩)
theorem opX_j {X X' : Int} (e : X = X') (w : cw 8 (fun r G' R' V' => r = some (0, X) ∧ CI G' R' V' 0 57 S0 (93 + 117 * k) V (mL V) (mI V dd)) y ac G R V) : cw 8 (fun r G' R' V' => r = some (0, X') ∧ ∃ L' I', CI G' R' V' 0 57 S0 (93 + 117 * (k + 1)) V L' I' ∧ sP V dd L' I') y ac G R V := cw_mono (Nat.le_refl _) w (fun r G' R' V' q => by rw [q.1, e]; exact ⟨rfl, _, _, CI_N q.2 (by omega), rfl, rfl⟩)
abbrev jR (Q1 Q2 : Option zV → Prop) (k y z : Nat) (as : List zV) (G : List gS) (R V : gV) : Prop := cw 8 (fun r G1 R1 V1 => Q1 r ∧ (G1[57]? = some (gO 8) ∧ RM G1) ∧ cw 8 (fun r2 G2 R2 V2 => Q2 r2 ∧ JS G2 R2 V2 (k + 1)) z ((4, ((57 : Nat) : Int)) :: as) G1 R1 V1) y ((4, ((0 : Nat) : Int)) :: as) G R V
abbrev qI : Option zV → Prop := fun r => ∃ v, r = some (0, v)
abbrev qL : Option zV → Prop := fun r => ∃ v, r = some (2, v)
abbrev qE (x : Int) : Option zV → Prop := fun r => r = some (0, x)
theorem mK_j {V1 V2 : gV} (p4 : ∀ i, V2 (57 + 28) i = V1 (57 + 28) i) (h : mK V1 V2 57) (kr : mR V1 V2 57) (l : ∀ a i, 57 ≤ a → a ≤ 92 → V1 a i = V a i) (rf : rfD V dd) (hp : I' = mI V dd) : ∃ dd', mI V2 dd' = I' ∧ rfD V2 dd' := by
  obtain ⟨k1, k2, k3, k4⟩ := h
  refine ⟨dd, ?_, rfD_e (k1.trans (l _ _ (by omega) (by omega))) (k2.trans (l _ _ (by omega) (by omega))) (fun i => (k3 i).trans (l _ _ (by omega) (by omega))) (fun a i a0 a1 => ?_) rf⟩
  · rw [hp]; exact mI_e (fun i => (p4 i).trans (l _ _ (by omega) (by omega))) (fun a i q => (kr a i (by omega)).trans (l _ _ (by omega) (by omega)))
  · by_cases q : a = 85
    · rw [q]; exact (p4 i).trans (l _ _ (by omega) (by omega))
    · exact (k4 a i (by omega) (by omega)).trans (l _ _ (by omega) (by omega))
theorem j_sheet (h : JS G R V k) (hk : k < 512) {x1 x2 x3 : Int} (h1 : i32 x1) (h2 : i32 x2) (h3 : i32 x3) : jR (qE (shA x1 x2 x3)) (qE (shA x1 x2 x3)) k 103 162 [(0, x1), (0, x2), (0, x3)] G R V := by
  refine jp h hk (P := fun dd L' I' => L' = shL (mL V) x1 x2 x3 ∧ I' = mI V dd) (fun dd c _ rf => ?_) (fun dd L' I' G1 R1 V1 rf hp ly m vr l0 => ?_)
  · refine cw_mono (by omega) (sheet_K c h1 h2 h3) (fun r G' R' V' q => ?_)
    obtain ⟨e1, e2, v, q1, q2, q3⟩ := q
    rw [e1, e2, q1, q2]
    exact ⟨rfl, _, _, CI_N q3 (by omega), rfl, rfl⟩
  · refine cwv_mono (by omega) (sheet_c ly m h1 h2 h3) (fun r V' q => ?_)
    obtain ⟨v, q1, q2, q3, q4, q5, q6, q7⟩ := q
    rw [q1, q2]
    have l : ∀ a i, 58 ≤ a → a ≤ 60 → V1 a i = V a i := fun a i a0 a1 => l0 a i (by omega) (by omega)
    refine ⟨rfl, q3, q4, ?_, mK_j q5 q7.1 q7.2 l0 rf hp.2⟩
    rw [hp.1]
    funext j
    have e : ∀ a i, 58 ≤ a → a ≤ 60 → V' a i = shM V1 57 x1 x2 x3 a i := fun a i a0 a1 => q6 a i (by omega) (by omega)
    have e37 : V' 57 37 = V 57 37 := (q7.2 57 37 (by omega)).trans (l0 _ _ (by omega) (by omega))
    have ok0 : ¬ ((0 ≤ x1 ∧ x1 ≤ 3) ∧ (0 ≤ x2 ∧ x2 ≤ 2) ∧ x3 ≤ 8) ∨ ¬ ¬ ((0 ≤ x1 ∧ x1 ≤ 3) ∧ (0 ≤ x2 ∧ x2 ≤ 2) ∧ x3 ≤ 8) := by omega
    rcases ok0 with ok | ok
    · have e2 : mL V' = mL V := mL_e (fun a i a0 a1 => by rw [e a i a0 a1]; unfold shM; rw [if_pos ok]; exact l a i a0 a1) e37
      rw [e2]; unfold shL; rw [if_pos ok]
    · unfold shL mL
      rw [if_neg ok]
      by_cases j1 : j < 10
      · rw [if_pos j1, if_pos j1, e _ _ (by omega) (by omega)]
        unfold shM
        rw [if_neg ok, if_neg (show ¬ (59 = 57 + 1 ∧ j = x1) by omega), if_neg (show ¬ (59 = 57 + 3 ∧ 8 * x1 ≤ j ∧ j < 8 * x1 + 8) by omega), if_neg (show ¬ j = 10 + x1 by omega), if_neg (show ¬ (100 + 8 * x1 ≤ j ∧ j < 108 + 8 * x1) by omega), l _ _ (by omega) (by omega)]
        by_cases z : j = x1
        · rw [if_pos (show 59 = 57 + 2 ∧ j = x1 from ⟨rfl, z⟩), if_pos z]
        · rw [if_neg (show ¬ (59 = 57 + 2 ∧ j = x1) by omega), if_neg z]
      · rw [if_neg j1, if_neg j1, if_neg (show ¬ j = x1 by omega)]
        by_cases j2 : j < 100
        · rw [if_pos j2, if_pos j2, e _ _ (by omega) (by omega)]
          unfold shM
          rw [if_neg ok, if_neg (show ¬ (58 = 57 + 2 ∧ j - 10 = x1) by omega), if_neg (show ¬ (58 = 57 + 3 ∧ 8 * x1 ≤ j - 10 ∧ j - 10 < 8 * x1 + 8) by omega), if_neg (show ¬ (100 + 8 * x1 ≤ j ∧ j < 108 + 8 * x1) by omega), l _ _ (by omega) (by omega)]
          by_cases z : j = 10 + x1
          · rw [if_pos (show 58 = 57 + 1 ∧ j - 10 = x1 by omega), if_pos z]
          · rw [if_neg (show ¬ (58 = 57 + 1 ∧ j - 10 = x1) by omega), if_neg z]
        · by_cases j3 : j < 200
          · rw [if_neg j2, if_neg j2, if_pos j3, if_pos j3, e _ _ (by omega) (by omega)]
            unfold shM
            rw [if_neg ok, if_neg (show ¬ (60 = 57 + 2 ∧ j - 100 = x1) by omega), if_neg (show ¬ (60 = 57 + 1 ∧ j - 100 = x1) by omega), if_neg (show ¬ j = 10 + x1 by omega), l _ _ (by omega) (by omega)]
            by_cases z : 100 + 8 * x1 ≤ j ∧ j < 108 + 8 * x1
            · rw [if_pos (show 60 = 57 + 3 ∧ 8 * x1 ≤ j - 100 ∧ j - 100 < 8 * x1 + 8 by omega), if_pos z]
            · rw [if_neg (show ¬ (60 = 57 + 3 ∧ 8 * x1 ≤ j - 100 ∧ j - 100 < 8 * x1 + 8) by omega), if_neg z]
          · rw [if_neg j2, if_neg j2, if_neg j3, if_neg j3, e37, if_neg (show ¬ j = 10 + x1 by omega), if_neg (show ¬ (100 + 8 * x1 ≤ j ∧ j < 108 + 8 * x1) by omega)]
            split <;> split <;> rfl
theorem mL_s {V : gV} {s : Int} (h : s ≤ 3) : mL V s = V 59 s := by unfold mL; rw [if_pos (by omega)]
theorem mL_10 {V : gV} {s : Int} (h : 0 ≤ s ∧ s ≤ 3) : mL V (10 + s) = V 58 s := by unfold mL; rw [if_neg (by omega), if_pos (by omega), show 10 + s - 10 = s by omega]
theorem mL_100 {V : gV} {s : Int} (h : 0 ≤ s ∧ s < 100) : mL V (100 + s) = V 60 s := by unfold mL; rw [if_neg (by omega), if_neg (by omega), if_pos (by omega), show 100 + s - 100 = s by omega]
theorem wr_AL {V1 : gV} (l : ∀ a i, 58 ≤ a → a ≤ 60 → V1 a i = V a i) {s i : Int} : wrA V1 57 s i = wrL (mL V) s i := by
  unfold wrA wrL
  by_cases z : ¬ (0 ≤ s ∧ s ≤ 3)
  · rw [if_pos z, if_pos z]
  · rw [if_neg z, if_neg z, mL_s (by omega), l _ _ (by omega) (by omega)]
theorem j_write (h : JS G R V k) (hk : k < 512) {x1 x2 x3 : Int} (h1 : i32 x1) (h2 : i32 x2) (h3 : i32 x3) : jR (qE (wrL (mL V) x1 x2)) (qE (wrL (mL V) x1 x2)) k 104 163 [(0, x1), (0, x2), (0, x3)] G R V := by
  refine jp h hk (P := fun dd L' I' => L' = wnL (mL V) x1 x2 x3 ∧ I' = mI V dd) (fun dd c hm rf => ?_) (fun dd L' I' G1 R1 V1 rf hp ly m vr l0 => ?_)
  · refine cw_mono (by omega) (write_K c (fun s s0 s1 => by rw [mL_s s1]; exact (hm.1 s s0 (by omega)).2) h1 h2 h3) (fun r G' R' V' q => ?_)
    obtain ⟨e1, e2, v, q1, q2, q3⟩ := q
    rw [e1, e2, q1, q2]
    exact ⟨rfl, _, _, CI_N q3 (by omega), rfl, rfl⟩
  · refine cwv_mono (by omega) (write_c ly m h1 h2 h3) (fun r V' q => ?_)
    obtain ⟨v, q1, q2, q3, q4, q5, q6, q7⟩ := q
    have l : ∀ a i, 58 ≤ a → a ≤ 60 → V1 a i = V a i := fun a i a0 a1 => l0 a i (by omega) (by omega)
    rw [q1, q2, wr_AL l]
    refine ⟨rfl, q3, q4, ?_, mK_j q5 q7.1 q7.2 l0 rf hp.2⟩
    rw [hp.1]
    funext j
    have e : ∀ a i, 58 ≤ a → a ≤ 60 → V' a i = wrM V1 57 x1 x2 x3 a i := fun a i a0 a1 => q6 a i (by omega) (by omega)
    have e37 : V' 57 37 = V 57 37 := (q7.2 57 37 (by omega)).trans (l0 _ _ (by omega) (by omega))
    unfold wrM at e
    rw [wr_AL l] at e
    unfold wnL
    by_cases z : wrL (mL V) x1 x2 = 0 ∧ j = 100 + 8 * x1 + x2
    · have s0 : 0 ≤ x1 ∧ x1 ≤ 3 := by
        apply Classical.byContradiction
        intro y
        have := z.1
        unfold wrL at this
        rw [if_pos y] at this
        omega
      have i0 : 0 ≤ x2 := by
        apply Classical.byContradiction
        intro y
        have := z.1
        unfold wrL at this
        rw [if_neg (fun q => q s0)] at this
        by_cases y2 : mL V x1 = -1
        · rw [if_pos y2] at this; omega
        · rw [if_neg y2, if_pos (by omega)] at this; omega
      have i1 : x2 ≤ 7 := by
        have y1 := (m.1 x1 s0.1 (by omega)).2
        have y0 : V1 59 x1 ≤ 8 := y1
        rw [l _ _ (by omega) (by omega)] at y0
        apply Classical.byContradiction
        intro y
        have := z.1
        unfold wrL at this
        rw [if_neg (fun q => q s0)] at this
        by_cases y2 : mL V x1 = -1
        · rw [if_pos y2] at this; omega
        · rw [if_neg y2, if_pos (by rw [mL_s s0.2]; omega)] at this; omega
      rw [if_pos z, z.2, show 100 + 8 * x1 + x2 = 100 + (8 * x1 + x2) by omega, mL_100 (by omega), e _ _ (by omega) (by omega), if_pos ⟨z.1, by omega, rfl⟩, l _ _ (by omega) (by omega), mL_10 s0]
    · rw [if_neg z]
      unfold mL
      by_cases j1 : j < 10
      · rw [if_pos j1, if_pos j1, e _ _ (by omega) (by omega), if_neg (by omega), l _ _ (by omega) (by omega)]
      · rw [if_neg j1, if_neg j1]
        by_cases j2 : j < 100
        · rw [if_pos j2, if_pos j2, e _ _ (by omega) (by omega), if_neg (by omega), l _ _ (by omega) (by omega)]
        · rw [if_neg j2, if_neg j2]
          by_cases j3 : j < 200
          · rw [if_pos j3, if_pos j3, e _ _ (by omega) (by omega), if_neg (fun y => z ⟨y.1, by omega⟩), l _ _ (by omega) (by omega)]
          · rw [if_neg j3, if_neg j3, e37]
theorem j_count (h : JS G R V k) (hk : k < 512) {x1 : Int} (h1 : i32 x1) : jR qI qI k 106 182 [(0, x1)] G R V := jp h hk (P := sP V) (fun dd c _ rf => opI_j (opI c (fun T g p n C D o m E u th => count_k u th h1))) (fun dd L' I' G1 R1 V1 rf hp ly m vr l => aI_j (count_c ly m h1) (by omega) l rf hp)
theorem rt_e {V1 : gV} (l : ∀ a i, 57 ≤ a → a ≤ 92 → V1 a i = V a i) {t p : Int} : rtX V1 57 t p = rtX V 57 t p := by
  unfold rtX
  rw [l 57 4 (by omega) (by omega), l 57 5 (by omega) (by omega), l (57 + 4) _ (by omega) (by omega)]
theorem rp_e {V1 : gV} (l : ∀ a i, 57 ≤ a → a ≤ 92 → V1 a i = V a i) {t p : Int} : rmX V1 57 t p = rmX V 57 t p := by
  unfold rmX
  rw [l 57 5 (by omega) (by omega), l (57 + 5) _ (by omega) (by omega)]
theorem j_turn (h : JS G R V k) (hk : k < 512) {x1 x2 : Int} (h1 : i32 x1) (h2 : i32 x2) : jR (qE (rtX V 57 x1 x2)) (qE (rtX V 57 x1 x2)) k 107 186 [(0, x1), (0, x2)] G R V := jp h hk (P := sP V) (fun dd c hm rf => opX_j (tn_rt hm rf.1) (opX c (fun T g p n C D o m E u lk th => turn_X u (by rw [mI_3] at lk; exact lk) (dEq_c0 hm rf.1) th h1 h2))) (fun dd L' I' G1 R1 V1 rf hp ly m vr l => cwv_mono (by omega) (turn_C ly m h1 h2) (fun r V2 q => by rw [q.1, q.2, rt_e l]; exact ⟨rfl, jm (mQ_r m) l rf hp⟩))
theorem j_product (h : JS G R V k) (hk : k < 512) {x1 x2 : Int} (h1 : i32 x1) (h2 : i32 x2) : jR (qE (rmX V 57 x1 x2)) (qE (rmX V 57 x1 x2)) k 108 187 [(0, x1), (0, x2)] G R V := jp h hk (P := sP V) (fun dd c hm rf => opX_j (pr_rp hm rf.1) (opX c (fun T g p n C D o m E u lk th => product_X u (by rw [mI_3] at lk; exact lk) th h1 h2))) (fun dd L' I' G1 R1 V1 rf hp ly m vr l => cwv_mono (by omega) (product_C ly m h1 h2) (fun r V2 q => by rw [q.1, q.2, rp_e l]; exact ⟨rfl, jm (mQ_r m) l rf hp⟩))
theorem rh_e {V1 : gV} (l : ∀ a i, 57 ≤ a → a ≤ 92 → V1 a i = V a i) {t p : Int} : rhX V1 57 t p = rhX V 57 t p := by
  unfold rhX
  rw [l 57 12 (by omega) (by omega), l 57 5 (by omega) (by omega), l (57 + 9) _ (by omega) (by omega)]
theorem j_has (h : JS G R V k) (hk : k < 512) {x1 x2 : Int} (h1 : i32 x1) (h2 : i32 x2) : jR (qE (rhX V 57 x1 x2)) (qE (rhX V 57 x1 x2)) k 111 200 [(0, x1), (0, x2)] G R V := jp h hk (P := sP V) (fun dd c hm rf => opX_j (ha_rh hm rf.1) (opX c (fun T g p n C D o m E u lk th => has_X u (by rw [mI_3] at lk; exact lk) (dEq_b hm rf.1).1 (dEq_b hm rf.1).2 th h1 h2))) (fun dd L' I' G1 R1 V1 rf hp ly m vr l => cwv_mono (by omega) (has_C ly m h1 h2) (fun r V2 q => by rw [q.1, q.2, rh_e l]; exact ⟨rfl, jm (mQ_r m) l rf hp⟩))
theorem opP_j {P Q : Int → Prop} (pq : ∀ v, P v → Q v) (uq : ∀ v w, Q v → Q w → v = w) (w : cw 8 (fun r G' R' V' => ∃ v : Int, r = some (0, v) ∧ P v ∧ CI G' R' V' 0 57 S0 (93 + 117 * k) V (mL V) (mI V dd)) y ac G R V) : cw 8 (fun r G' R' V' => r = some (0, the Q) ∧ ∃ L' I', CI G' R' V' 0 57 S0 (93 + 117 * (k + 1)) V L' I' ∧ sP V dd L' I') y ac G R V := cw_mono (Nat.le_refl _) w (fun r G' R' V' q => by
  obtain ⟨v, q1, q2, q3⟩ := q
  rw [q1, the_e uq (pq v q2)]
  exact ⟨rfl, _, _, CI_N q3 (by omega), rfl, rfl⟩)
theorem qF_j {Q : Int → Prop} {d : Nat} {V1 : gV} {G1 : List gS} {R1 : gV} (uq : ∀ v w, Q v → Q w → v = w) (hd : d ≤ 8) (m : MI V1 57) (w : cwv d (fun r V' => ∃ v, r = some (0, v) ∧ (qF V1 V' 57 ∧ Q v)) z am G1 R1 V1) (l : ∀ a i, 57 ≤ a → a ≤ 92 → V1 a i = V a i) (rf : rfD V dd) (hp : sP V dd L' I') : cwv 8 (fun r V2 => r = some (0, the Q) ∧ jE V1 L' I' V2) z am G1 R1 V1 := cwv_mono hd w (fun r V2 q => by
  obtain ⟨v, q1, q2, q3⟩ := q
  rw [q1, the_e uq q3]
  exact ⟨rfl, jm (mQ_q m q2) l rf hp⟩)
theorem has_e {V1 : gV} (l : ∀ a i, 57 ≤ a → a ≤ 92 → V1 a i = V a i) : mHas V1 57 = mHas V 57 := funext (fun k => funext (fun t => l _ _ (by omega) (by omega)))
theorem dEq_mr {d : gD} (h : dEq d (V 57 4) (V 57 5) (fun i => V 61 i)) : ∀ s t, 0 ≤ s → s < d 0 1 → 0 ≤ t → t < d 0 1 → 0 ≤ d (2 + s) t ∧ d (2 + s) t < d 0 1 := fun s t s0 s1 t0 t1 => by
  have e := h.2.1
  have m := h.2.2.2.1 s t s0 (by omega) t0 (by omega)
  have m1 := m.1
  have m2 := m.2.1
  rw [e]
  exact ⟨m1, m2⟩
theorem j_join (h : JS G R V k) (hk : k < 512) {x1 x2 x3 : Int} (h1 : i32 x1) (h2 : i32 x2) (h3 : i32 x3) : jR (qE (the (jnP (V 57 5) (V 57 12) (mHas V 57) x1 x2 x3))) (qE (the (jnP (V 57 5) (V 57 12) (mHas V 57) x1 x2 x3))) k 112 201 [(0, x1), (0, x2), (0, x3)] G R V := by
  refine jp h hk (P := fun dd L' I' => MI V 57 ∧ sP V dd L' I') (fun dd c hm rf => ?_) (fun dd L' I' G1 R1 V1 rf hp ly m vr l => ?_)
  · have uq := fun v w => jnP_u (v := v) (v' := w) (h := x1) (k := x2) (w := x3) hm.2.1.2.1.2.1
    obtain ⟨K, rq, _⟩ := hp_eq hm rf.1
    have e1 := rf.1.2.1
    have n := MI_N hm
    refine cw_mono (Nat.le_refl _) (opP_j (Q := jnP (V 57 5) (V 57 12) (mHas V 57) x1 x2 x3) (fun v q => ?_) uq (opP c (fun T g p n C D o m E u lk th => join_X u (by rw [mI_3] at lk; exact lk) rf.1.2.2.2.2 (by omega) (dEq_mr rf.1) th h1 h2 h3))) (fun r G' R' V' q => ?_)
    · rw [e1, K] at q
      exact jnP_c rq q
    · obtain ⟨q1, L', I', q2, q3⟩ := q
      exact ⟨q1, L', I', q2, hm, q3⟩
  · have uq := fun v w => jnP_u (v := v) (v' := w) (h := x1) (k := x2) (w := x3) hp.1.2.1.2.1.2.1
    have jc := join_C ly m h1 h2 h3
    rw [l 57 5 (by omega) (by omega), l 57 12 (by omega) (by omega), has_e l] at jc
    exact qF_j uq (by omega) m jc l rf hp.2
theorem mm_e {V1 : gV} (l : ∀ a i, 57 ≤ a → a ≤ 92 → V1 a i = V a i) : mMul V1 57 = mMul V 57 ∧ mInv V1 57 = mInv V 57 := ⟨funext (fun s => funext (fun t => l _ _ (by omega) (by omega))), funext (fun s => l _ _ (by omega) (by omega))⟩
theorem roc_e {V1 : gV} (l : ∀ a i, 57 ≤ a → a ≤ 92 → V1 a i = V a i) {c w : Int} : rocX V1 57 c w = rocX V 57 c w := by
  unfold rocX
  rw [l 57 13 (by omega) (by omega), l (57 + 15) c (by omega) (by omega), l (57 + 16) c (by omega) (by omega), l (57 + 10) (V (57 + 15) c) (by omega) (by omega)]
theorem rwi_e {V1 : gV} (l : ∀ a i, 57 ≤ a → a ≤ 92 → V1 a i = V a i) {c e w : Int} : rwiX V1 57 c e w = rwiX V 57 c e w := by
  have hh := has_e l
  have f14 : (fun k => V1 (57 + 14) k) = fun k => V (57 + 14) k := funext (fun k => l _ _ (by omega) (by omega))
  have f15 : (fun k => V1 (57 + 15) k) = fun k => V (57 + 15) k := funext (fun k => l _ _ (by omega) (by omega))
  have s1 : sm (fun k => bi (V1 (57 + 14) k = e) * Lq (V1 57 5) (mHas V1 57) k (V1 (57 + 15) c)) (V1 57 12).toNat = sm (fun k => bi (V (57 + 14) k = e) * Lq (V 57 5) (mHas V 57) k (V (57 + 15) c)) (V 57 12).toNat := by
    rw [l 57 12 (by omega) (by omega), l 57 5 (by omega) (by omega), hh, l (57 + 15) c (by omega) (by omega)]
    exact sm_congr (fun k _ _ => by rw [l (57 + 14) k (by omega) (by omega)])
  unfold rwiX
  rw [s1, l 57 13 (by omega) (by omega)]
  show (if _ then (if w = 0 then _ else ov (V1 57 5) (V1 57 12) (mHas V1 57) (fun h => V1 (57 + 14) h) (fun c => V1 (57 + 15) c) c e) else -1) = _
  rw [l 57 12 (by omega) (by omega), l 57 5 (by omega) (by omega), hh, f14, f15]
theorem rta_e {V1 : gV} (l : ∀ a i, 57 ≤ a → a ≤ 92 → V1 a i = V a i) {c e : Int} : rtaX V1 57 c e = rtaX V 57 c e := by
  unfold rtaX
  rw [l 57 13 (by omega) (by omega), l (57 + 18) _ (by omega) (by omega)]
theorem rsi_e {V1 : gV} (l : ∀ a i, 57 ≤ a → a ≤ 92 → V1 a i = V a i) : rsiX V1 57 = rsiX V 57 := by
  have s1 : sm (fun h => bi (V1 (57 + 16) (V1 (57 + 14) h) = 1)) (V1 57 12).toNat = sm (fun h => bi (V (57 + 16) (V (57 + 14) h) = 1)) (V 57 12).toNat := by
    rw [l 57 12 (by omega) (by omega)]
    exact sm_congr (fun k _ _ => by rw [l (57 + 14) k (by omega) (by omega), l (57 + 16) _ (by omega) (by omega)])
  unfold rsiX
  rw [s1]
theorem rot_e {V1 : gV} (l : ∀ a i, 57 ≤ a → a ≤ 92 → V1 a i = V a i) : rotP V1 57 = rotP V 57 := by
  have f10 : (fun k => V1 (57 + 10) k) = fun k => V (57 + 10) k := funext (fun k => l _ _ (by omega) (by omega))
  show otP (V1 57 5) (V1 57 12) (mMul V1 57) (mInv V1 57) (mHas V1 57) (fun k => V1 (57 + 10) k) = _
  rw [l 57 5 (by omega) (by omega), l 57 12 (by omega) (by omega), (mm_e l).1, (mm_e l).2, has_e l, f10]
abbrev rsyV (V : gV) : Int → Int → Prop := syV (V 57 5) (V 57 13) (fun c => V (57 + 10) (V (57 + 15) c))
theorem rsy_e {V1 : gV} (l : ∀ a i, 57 ≤ a → a ≤ 92 → V1 a i = V a i) : rsyV V1 = rsyV V := by
  have f : (fun c => V1 (57 + 10) (V1 (57 + 15) c)) = fun c => V (57 + 10) (V (57 + 15) c) := funext (fun c => by rw [l (57 + 15) c (by omega) (by omega), l (57 + 10) _ (by omega) (by omega)])
  show syV (V1 57 5) (V1 57 13) (fun c => V1 (57 + 10) (V1 (57 + 15) c)) = _
  rw [l 57 5 (by omega) (by omega), l 57 13 (by omega) (by omega), f]
theorem j_ofTurn (h : JS G R V k) (hk : k < 512) {x1 x2 : Int} (h1 : i32 x1) (h2 : i32 x2) : jR (qE (the (rotP V 57 x1 x2))) (qE (the (rotP V 57 x1 x2))) k 109 191 [(0, x1), (0, x2)] G R V := jp h hk (P := sP V) (fun dd c hm rf => opX_j (the_e otP_u (ot_eq hm rf.1)) (opX c (fun T g p n C D o m E u lk th => ofTurn_X u (by rw [mI_3] at lk; exact lk) (dQ_hg rf.1) th h1 h2))) (fun dd L' I' G1 R1 V1 rf hp ly m vr l => by
  have c := ofTurn_C ly m h1 h2
  rw [rot_e l] at c
  exact qF_j otP_u (by omega) m c l rf hp)
theorem j_ofClass (h : JS G R V k) (hk : k < 512) {x1 x2 : Int} (h1 : i32 x1) (h2 : i32 x2) : jR (qE (rocX V 57 x1 x2)) (qE (rocX V 57 x1 x2)) k 113 202 [(0, x1), (0, x2)] G R V := jp h hk (P := sP V) (fun dd c hm rf => opX_j (oc_eq hm rf.1) (opX c (fun T g p n C D o m E u lk th => ofClass_X u (by rw [mI_3] at lk; exact lk) th h1 h2))) (fun dd L' I' G1 R1 V1 rf hp ly m vr l => cwv_mono (by omega) (ofClass_C ly m h1 h2) (fun r V2 q => by rw [q.1, q.2, roc_e l]; exact ⟨rfl, jm (mQ_r m) l rf hp⟩))
theorem j_within (h : JS G R V k) (hk : k < 512) {x1 x2 x3 : Int} (h1 : i32 x1) (h2 : i32 x2) (h3 : i32 x3) : jR (qE (rwiX V 57 x1 x2 x3)) (qE (rwiX V 57 x1 x2 x3)) k 114 203 [(0, x1), (0, x2), (0, x3)] G R V := jp h hk (P := sP V) (fun dd c hm rf => opX_j (wi_eq hm rf.1) (opX c (fun T g p n C D o m E u lk th => within_X u (by rw [mI_3] at lk; exact lk) (dQ_hg rf.1) th h1 h2 h3))) (fun dd L' I' G1 R1 V1 rf hp ly m vr l => cwv_mono (by omega) (within_C ly m h1 h2 h3) (fun r V2 q => by rw [q.1, q.2, rwi_e l]; exact ⟨rfl, jm (mQ_r m) l rf hp⟩))
theorem j_table (h : JS G R V k) (hk : k < 512) {x1 x2 : Int} (h1 : i32 x1) (h2 : i32 x2) : jR (qE (rtaX V 57 x1 x2)) (qE (rtaX V 57 x1 x2)) k 115 204 [(0, x1), (0, x2)] G R V := jp h hk (P := sP V) (fun dd c hm rf => opX_j (ta_eq hm rf.1) (opX c (fun T g p n C D o m E u lk th => table_X u (by rw [mI_3] at lk; exact lk) th h1 h2))) (fun dd L' I' G1 R1 V1 rf hp ly m vr l => cwv_mono (by omega) (table_C ly m h1 h2) (fun r V2 q => by rw [q.1, q.2, rta_e l]; exact ⟨rfl, jm (mQ_r m) l rf hp⟩))
theorem j_sylow (h : JS G R V k) (hk : k < 512) {x1 : Int} (h1 : i32 x1) : jR (qE (the (rsyV V x1))) (qE (the (rsyV V x1))) k 116 205 [(0, x1)] G R V := by
  have uq : ∀ v w, rsyV V x1 v → rsyV V x1 w → v = w := fun v w a b => syV_u a b
  refine jp h hk (P := sP V) (fun dd c hm rf => ?_) (fun dd L' I' G1 R1 V1 rf hp ly m vr l => ?_)
  · have e1 := rf.1.2.1
    have n := MI_N hm
    obtain ⟨K, rq, sz⟩ := hp_eq hm rf.1
    obtain ⟨CC, ce, fe, ne⟩ := gp_eq hm rf.1
    refine opP_j (Q := rsyV V x1) (fun v q => ?_) uq (opP c (fun T g p n C D o m E u lk th => sylow_X u (by rw [mI_3] at lk; exact lk) (by omega) th h1))
    rw [e1, CC] at q
    refine syV_c (fun c c0 c1 => ?_) q
    have f := MI_fo hm (c := c) ⟨c0, c1⟩
    (try dsimp only)
    rw [fe c c0 c1]
    exact sz _ f.1 f.2
  · have c := sylow_C ly m h1
    have c' : cwv 1 (fun r V' => ∃ v, r = some (0, v) ∧ (qF V1 V' 57 ∧ rsyV V1 x1 v)) 205 [(4, ((57 : Nat) : Int)), (0, x1)] G1 R1 V1 := c
    rw [rsy_e l] at c'
    exact qF_j uq (by omega) m c' l rf hp
theorem j_simple (h : JS G R V k) (hk : k < 512)  : jR (qE (rsiX V 57)) (qE (rsiX V 57)) k 118 207 [] G R V := jp h hk (P := sP V) (fun dd c hm rf => opX_j (si_eq hm rf.1) (opX c (fun T g p n C D o m E u lk th => simple_X u (by rw [mI_3] at lk; exact lk) th))) (fun dd L' I' G1 R1 V1 rf hp ly m vr l => cwv_mono (by omega) (simple_C ly m) (fun r V2 q => by rw [q.1, q.2, rsi_e l]; exact ⟨rfl, jm (mQ_r m) l rf hp⟩))
theorem rch_e {V1 : gV} (l : ∀ a i, 57 ≤ a → a ≤ 92 → V1 a i = V a i) {c w : Int} : rchX V1 57 c w = rchX V 57 c w := by
  unfold rchX
  show chV (gn (V1 57 5) (V1 57 12) (mHas V1 57) c.toNat 0) (V1 57 5 ^ c.toNat) c w = _
  rw [l 57 5 (by omega) (by omega), l 57 12 (by omega) (by omega), has_e l]
theorem rgn_e {V1 : gV} (l : ∀ a i, 57 ≤ a → a ≤ 92 → V1 a i = V a i) : rgn V1 57 = rgn V 57 := by
  funext c
  show gn (V1 57 5) (V1 57 12) (mHas V1 57) c.toNat 0 = _
  rw [l 57 5 (by omega) (by omega), l 57 12 (by omega) (by omega), has_e l]
theorem opY_j {X X' : Int} (e : X = X') (w : cw 8 (fun r G' R' V' => r = some (2, X) ∧ CI G' R' V' 0 57 S0 (93 + 117 * k) V (mL V) (mI V dd)) y ac G R V) : cw 8 (fun r G' R' V' => r = some (2, X') ∧ ∃ L' I', CI G' R' V' 0 57 S0 (93 + 117 * (k + 1)) V L' I' ∧ sP V dd L' I') y ac G R V := cw_mono (Nat.le_refl _) w (fun r G' R' V' q => by rw [q.1, e]; exact ⟨rfl, _, _, CI_N q.2 (by omega), rfl, rfl⟩)
abbrev qK (x : Int) : Option zV → Prop := fun r => r = some (2, x)
theorem j_chance (h : JS G R V k) (hk : k < 512) {x1 x2 : Int} (h1 : i32 x1) (h2 : i32 x2) : jR (qK (rchX V 57 x1 x2)) (qK (rchX V 57 x1 x2)) k 133 237 [(0, x1), (0, x2)] G R V := jp h hk (P := sP V) (fun dd c hm rf => opY_j (ch_eq hm rf.1 x1 x2) (opY c (fun T g p n C D o m E u lk th => chance_X u (by rw [mI_3] at lk; exact lk) rf.1.2.2.2.2 (dEq_b hm rf.1).2 th h1 h2))) (fun dd L' I' G1 R1 V1 rf hp ly m vr l => cwv_mono (by omega) (chance_C ly m h1 h2) (fun r V2 q => by rw [q.1, q.2, rch_e l]; exact ⟨rfl, jm (mQ_r m) l rf hp⟩))
theorem j_rank (h : JS G R V k) (hk : k < 512)  : jR (qE (the (rkP (rgn V 57)))) (qE (the (rkP (rgn V 57)))) k 134 238 [] G R V := by
  refine jp h hk (P := sP V) (fun dd c hm rf => ?_) (fun dd L' I' G1 R1 V1 rf hp ly m vr l => ?_)
  · refine opP_j (Q := rkP (rgn V 57)) (fun v q => ?_) rkP_u (opP c (fun T g p n C D o m E u lk th => rank_X u (by rw [mI_3] at lk; exact lk) rf.1.2.2.2.2 (dEq_b hm rf.1).2 th))
    have e : dgn (dd 3) = rgn V 57 := funext (fun k => gn_eq hm rf.1 k)
    rw [e] at q
    exact q
  · have c := rank_C ly m
    rw [rgn_e l] at c
    exact qF_j rkP_u (by omega) m c l rf hp
theorem rhp_e {V1 : gV} (l : ∀ a i, 57 ≤ a → a ≤ 92 → V1 a i = V a i) : rhpP V1 57 = rhpP V 57 := by
  have f10 : (fun k => V1 (57 + 10) k) = fun k => V (57 + 10) k := funext (fun k => l _ _ (by omega) (by omega))
  have f14 : (fun k => V1 (57 + 14) k) = fun k => V (57 + 14) k := funext (fun k => l _ _ (by omega) (by omega))
  have f16 : (fun k => V1 (57 + 16) k) = fun k => V (57 + 16) k := funext (fun k => l _ _ (by omega) (by omega))
  show hpP (V1 57 5) (V1 57 12) (mMul V1 57) (mInv V1 57) (mHas V1 57) (fun k => V1 (57 + 10) k) (fun k => V1 (57 + 14) k) (fun k => V1 (57 + 16) k) (mu (V1 57 12) (Lq (V1 57 5) (mHas V1 57))) = _
  rw [l 57 5 (by omega) (by omega), l 57 12 (by omega) (by omega), (mm_e l).1, (mm_e l).2, has_e l, f10, f14, f16]
theorem rdv_e {V1 : gV} (l : ∀ a i, 57 ≤ a → a ≤ 92 → V1 a i = V a i) : rdv V1 57 = rdv V 57 := by
  funext h
  unfold rdv
  rw [l 57 5 (by omega) (by omega), l 57 12 (by omega) (by omega), (mm_e l).1, (mm_e l).2, has_e l]
theorem rdn_e {V1 : gV} (l : ∀ a i, 57 ≤ a → a ≤ 92 → V1 a i = V a i) {k : Int} : rdnX V1 57 k = rdnX V 57 k := by
  unfold rdnX
  rw [rdv_e l, l 57 12 (by omega) (by omega)]
theorem j_heap (h : JS G R V k) (hk : k < 512) {x1 x2 : Int} (h1 : i32 x1) (h2 : i32 x2) : jR (qE (the (rhpP V 57 x1 x2))) (qE (the (rhpP V 57 x1 x2))) k 110 199 [(0, x1), (0, x2)] G R V := by
  refine jp h hk (P := fun dd L' I' => MI V 57 ∧ sP V dd L' I') (fun dd c hm rf => ?_) (fun dd L' I' G1 R1 V1 rf hp ly m vr l => ?_)
  · have uq : ∀ v w, rhpP V 57 x1 x2 v → rhpP V 57 x1 x2 w → v = w := fun v w => hpP_u (MI_hp hm)
    refine cw_mono (Nat.le_refl _) (opP_j (Q := rhpP V 57 x1 x2) (fun v q => hp_eqd hm rf.1 q) uq (opP c (fun T g p n C D o m E u lk th => heap_X u (by rw [mI_3] at lk; exact lk) rf.1.2.2.2.2 (by have e1 := rf.1.2.1; have n := MI_N hm; omega) th h1 h2))) (fun r G' R' V' q => ?_)
    obtain ⟨q1, L', I', q2, q3⟩ := q
    exact ⟨q1, L', I', q2, hm, q3⟩
  · have uq : ∀ v w, rhpP V 57 x1 x2 v → rhpP V 57 x1 x2 w → v = w := fun v w => hpP_u (MI_hp hp.1)
    have c := heap_C ly m h1 h2
    rw [rhp_e l] at c
    exact qF_j uq (by omega) m c l rf hp.2
theorem j_down (h : JS G R V k) (hk : k < 512) {x1 : Int} (h1 : i32 x1) : jR (qE (rdnX V 57 x1)) (qE (rdnX V 57 x1)) k 117 206 [(0, x1)] G R V := jp h hk (P := sP V) (fun dd c hm rf => opX_j (dn_eq hm rf.1 x1) (opX c (fun T g p n C D o m E u lk th => down_X u (by rw [mI_3] at lk; exact lk) rf.1.2.2.2.2 (by have e1 := rf.1.2.1; have n := MI_N hm; omega) th h1))) (fun dd L' I' G1 R1 V1 rf hp ly m vr l => cwv_mono (by omega) (down_C ly m h1) (fun r V2 q => by
  obtain ⟨v, q1, q2, q3⟩ := q
  rw [q1, q3, rdn_e l]
  exact ⟨rfl, jm (mQ_q m q2) l rf hp⟩))
theorem rcs_e {V1 : gV} (l : ∀ a i, 57 ≤ a → a ≤ 92 → V1 a i = V a i) {a c : Int} : rcsX V1 57 a c = rcsX V 57 a c := by
  unfold rcsX
  rw [l 57 13 (by omega) (by omega), l (57 + 18) _ (by omega) (by omega)]
theorem j_coset (h : JS G R V k) (hk : k < 512) {x1 x2 : Int} (h1 : i32 x1) (h2 : i32 x2) : jR (qK (rcsX V 57 x1 x2)) (qK (rcsX V 57 x1 x2)) k 119 214 [(0, x1), (0, x2)] G R V := jp h hk (P := sP V) (fun dd c hm rf => opY_j (cs_eq hm rf.1 x1 x2) (opY c (fun T g p n C D o m E u lk th => coset_X u (by rw [mI_3] at lk; exact lk) th h1 h2))) (fun dd L' I' G1 R1 V1 rf hp ly m vr l => cwv_mono (by omega) (coset_C ly m h1 h2) (fun r V2 q => by
  obtain ⟨v, q1, q2, q3⟩ := q
  rw [q1, q2, rcs_e l]
  exact ⟨rfl, jm q3 l rf hp⟩))
theorem j_places (h : JS G R V k) (hk : k < 512) {x1 x2 x3 : Int} (h1 : i32 x1) (h2 : i32 x2) (h3 : i32 x3) : jR qL qL k 120 218 [(0, x1), (0, x2), (0, x3)] G R V := jp h hk (P := sP V) (fun dd c _ rf => opJ_j (opJ c (fun T g p n C D o m E u th => places_k u th h1 h2 h3))) (fun dd L' I' G1 R1 V1 rf hp ly m vr l => aJ_j (places_c ly m h1 h2 h3) (by omega) l rf hp)
theorem j_heaps (h : JS G R V k) (hk : k < 512) {x1 : Int} (h1 : i32 x1) : jR qL qL k 121 219 [(0, x1)] G R V := jp h hk (P := sP V) (fun dd c _ rf => opJ_j (opJ c (fun T g p n C D o m E u th => heaps_k u th h1))) (fun dd L' I' G1 R1 V1 rf hp ly m vr l => aJ_j (mheaps_c ly m h1) (by omega) l rf hp)
theorem j_both (h : JS G R V k) (hk : k < 512) {x1 x2 x3 x4 : Int} (h1 : i32 x1) (h2 : i32 x2) (h3 : i32 x3) (h4 : i32 x4) : jR qL qL k 122 221 [(0, x1), (0, x2), (0, x3), (0, x4)] G R V := jp h hk (P := sP V) (fun dd c _ rf => opJ_j (opJ c (fun T g p n C D o m E u th => both_k u th h1 h2 h3 h4))) (fun dd L' I' G1 R1 V1 rf hp ly m vr l => aJ_j (both_c ly m h1 h2 h3 h4) (by omega) l rf hp)
theorem j_colour (h : JS G R V k) (hk : k < 512) {x1 x2 x3 : Int} (h1 : i32 x1) (h2 : i32 x2) (h3 : i32 x3) : jR qL qL k 123 224 [(0, x1), (0, x2), (0, x3)] G R V := jp h hk (P := sP V) (fun dd c _ rf => opJ_j (opJ c (fun T g p n C D o m E u th => colour_k u th h1 h2 h3))) (fun dd L' I' G1 R1 V1 rf hp ly m vr l => aJ_j (colour_c ly m h1 h2 h3) (by omega) l rf hp)
theorem j_many (h : JS G R V k) (hk : k < 512) {x1 x2 x3 : Int} (h1 : i32 x1) (h2 : i32 x2) (h3 : i32 x3) : jR qL qL k 124 225 [(0, x1), (0, x2), (0, x3)] G R V := jp h hk (P := sP V) (fun dd c _ rf => opJ_j (opJ c (fun T g p n C D o m E u th => many_k u th h1 h2 h3))) (fun dd L' I' G1 R1 V1 rf hp ly m vr l => aJ_j (many_c ly m h1 h2 h3) (by omega) l rf hp)
theorem j_parts (h : JS G R V k) (hk : k < 512) {x1 x2 : Int} (h1 : i32 x1) (h2 : i32 x2) : jR qL qL k 125 226 [(0, x1), (0, x2)] G R V := jp h hk (P := sP V) (fun dd c _ rf => opJ_j (opJ c (fun T g p n C D o m E u th => parts_k u th h1 h2))) (fun dd L' I' G1 R1 V1 rf hp ly m vr l => aJ_j (parts_c ly m h1 h2) (by omega) l rf hp)
theorem j_mark (h : JS G R V k) (hk : k < 512) {x1 x2 : Int} (h1 : i32 x1) (h2 : i32 x2) : jR qL qL k 126 227 [(0, x1), (0, x2)] G R V := jp h hk (P := sP V) (fun dd c _ rf => opJ_j (opJ c (fun T g p n C D o m E u th => mark_k u th h1 h2))) (fun dd L' I' G1 R1 V1 rf hp ly m vr l => aJ_j (mark_c ly m h1 h2) (by omega) l rf hp)
theorem j_act (h : JS G R V k) (hk : k < 512) {x1 x2 x3 : Int} (h1 : i32 x1) (h2 : i32 x2) (h3 : i32 x3) : jR qL qL k 127 229 [(0, x1), (0, x2), (0, x3)] G R V := jp h hk (P := sP V) (fun dd c _ rf => opJ_j (opJ c (fun T g p n C D o m E u th => act_k u th h1 h2 h3))) (fun dd L' I' G1 R1 V1 rf hp ly m vr l => aJ_j (act_c ly m h1 h2 h3) (by omega) l rf hp)
theorem j_same (h : JS G R V k) (hk : k < 512) {x1 x2 : Int} (h1 : i32 x1) (h2 : i32 x2) : jR qI qI k 128 230 [(0, x1), (0, x2)] G R V := jp h hk (P := sP V) (fun dd c _ rf => opI_j (opI c (fun T g p n C D o m E u th => same_k u th h1 h2))) (fun dd L' I' G1 R1 V1 rf hp ly m vr l => aI_j (same_c ly m h1 h2) (by omega) l rf hp)
theorem j_maps (h : JS G R V k) (hk : k < 512) {x1 x2 x3 : Int} (h1 : i32 x1) (h2 : i32 x2) (h3 : i32 x3) : jR qL qL k 129 231 [(0, x1), (0, x2), (0, x3)] G R V := jp h hk (P := sP V) (fun dd c _ rf => opJ_j (opJ c (fun T g p n C D o m E u th => maps_k u th h1 h2 h3))) (fun dd L' I' G1 R1 V1 rf hp ly m vr l => aJ_j (maps_c ly m h1 h2 h3) (by omega) l rf hp)
theorem j_row (h : JS G R V k) (hk : k < 512) {x1 : Int} (h1 : i64 x1) : jR (qE (rwA (V 57 13) (V 57 35) x1)) (qE (rwA (V 57 13) (V 57 35) x1)) k 130 232 [(2, x1)] G R V := by
  refine jp h hk (P := fun dd L' I' => MI V 57 ∧ L' = mL V ∧ I' = rwI (mI V dd) x1 ∧ dd 3 0 3 = V 57 13) (fun dd c hm rf => ?_) (fun dd L' I' G1 R1 V1 rf hp ly m vr l => ?_)
  · obtain ⟨CC, _, _, _⟩ := gp_eq hm rf.1
    have rs := hm.2.2.1
    have q := row_K c (by rw [mI_3, CC, mI_23, rwB_0]; exact rs.2) h1
    rw [mI_3, CC, mI_23, rwB_0] at q
    exact cw_mono (Nat.le_refl _) q (fun r G' R' V' q => ⟨q.1, _, _, CI_N q.2 (by omega), hm, rfl, rfl, CC⟩)
  · obtain ⟨hm, hp1, hp2, CC⟩ := hp
    have n := MI_N hm
    have rs := hm.2.2.1
    have e13 : V1 57 13 = V 57 13 := l _ _ (by omega) (by omega)
    have e35 : V1 57 35 = V 57 35 := l _ _ (by omega) (by omega)
    refine cwv_mono (by omega) (mrow_C ly m h1) (fun r V' q => ?_)
    obtain ⟨v, q1, q2, ⟨p1, p2, p3, p4⟩, ⟨k1, k2, k3, k4⟩, rr⟩ := q
    rw [e13, e35] at q2 rr
    rw [q1, q2]
    have e85 : ∀ i, V' 85 i = V 85 i := fun i => (p4 i).trans (l _ _ (by omega) (by omega))
    refine ⟨rfl, p1, p2, ?_, dd, ?_, rfD_e (k1.trans (l _ _ (by omega) (by omega))) (k2.trans (l _ _ (by omega) (by omega))) (fun i => (k3 i).trans (l _ _ (by omega) (by omega))) (fun a i a0 a1 => ?_) rf⟩
    · rw [hp1]
      refine mL_e (fun a i a0 a1 => (p3 a i (by omega) (by omega)).trans (l a i (by omega) (by omega))) ?_
      rw [rr 57 37 (by omega), if_neg (by omega), if_neg (by omega)]
      exact l _ _ (by omega) (by omega)
    · rw [hp2]
      refine mI_x (fun j j1 => ?_) (fun j j0 j1 => ?_) ?_ (fun j j0 j1 => ?_)
      · unfold rwI
        rw [if_neg (by omega), mI_k j1]
      · unfold rwI
        rw [if_neg (by omega), mI_j ⟨j0, j1⟩, e85]
      · unfold rwI
        rw [mI_3, CC, mI_23, rwB_0]
        have c35 := rr 57 35 (by omega)
        by_cases A : 0 ≤ rwA (V 57 13) (V 57 35) x1
        · have lt : V 57 35 < V 57 13 := by
            apply Classical.byContradiction
            intro y
            unfold rwA at A
            by_cases y2 : ¬ (-1000000000000 ≤ x1 ∧ x1 ≤ 1000000000000)
            · rw [if_pos y2] at A; omega
            · rw [if_neg y2, if_pos (by omega)] at A; omega
          rw [if_pos ⟨A, rfl⟩]
          rw [if_pos ⟨A, rfl, rfl⟩] at c35
          funext a i
          unfold rwB
          by_cases qa : a = 0
          · rw [if_pos qa, if_pos qa, c35]
          · rw [if_neg qa, if_neg qa, if_neg qa]
            by_cases q : 0 ≤ i ∧ i < 300
            · rw [if_pos q, if_pos q, rr 84 i (by omega), if_neg (by omega)]
              by_cases y : i = V 57 35
              · rw [if_pos ⟨A, rfl, y⟩, if_pos y]
              · rw [if_neg (fun z => y z.2.2), if_neg y]
                exact l _ _ (by omega) (by omega)
            · rw [if_neg q, if_neg q, if_neg (by omega)]
        · rw [if_neg (fun z => A z.1)]
          refine rwB_e ?_ (fun i => ?_)
          · rw [c35, if_neg (fun z => A z.1), if_neg (fun z => A z.1)]
            exact e35
          · rw [rr 84 i (by omega), if_neg (fun z => A z.1), if_neg (fun z => A z.1)]
            exact l _ _ (by omega) (by omega)
      · unfold rwI
        rw [if_neg (fun z => j1 z.2), mI_20 j0 j1]
        refine rwK_e ?_ (fun i _ _ => ?_)
        · rw [rr 91 _ (by omega), if_neg (by omega), if_neg (by omega)]
          exact l _ _ (by omega) (by omega)
        · rw [rr 92 _ (by omega), if_neg (by omega), if_neg (by omega)]
          exact l _ _ (by omega) (by omega)
    · by_cases q : a = 85
      · rw [q]; exact e85 i
      · exact (k4 a i (by omega) (by omega)).trans (l _ _ (by omega) (by omega))
abbrev ckW (V : gV) (v f : Int) : Prop := ckP (V 57 13) (mtb V 57) (fun i => V 84 i) v f
noncomputable def ckV (V : gV) : Int := if V 57 35 = V 57 13 then the (fun v => ∃ f, ckW V v f) else -1
theorem j_check (h : JS G R V k) (hk : k < 512) {x1 : Int} (h1 : i32 x1) : jR (qE (ckV V)) (qE (ckV V)) k 131 233 [(0, x1)] G R V := by
  have cy : ∀ v f, V 57 35 = V 57 13 → ckW V v f → v = ckV V := fun v f e q => by
    unfold ckV
    rw [if_pos e]
    exact the_e (P := fun v => ∃ f, ckW V v f) (fun v w ⟨f, a⟩ ⟨f', b⟩ => (ckP_u a b).1) ⟨f, q⟩
  have cn : V 57 35 ≠ V 57 13 → (-1 : Int) = ckV V := fun e => by unfold ckV; rw [if_neg e]
  refine jp h hk (P := fun dd L' I' => MI V 57 ∧ ((V 57 35 ≠ V 57 13 ∧ L' = mL V ∧ I' = mI V dd) ∨ (V 57 35 = V 57 13 ∧ ∃ v f, ckW V v f ∧ L' = miL (mL V) f ∧ I' = rwI0 (mI V dd)))) (fun dd c hm rf => ?_) (fun dd L' I' G1 R1 V1 rf hp ly m vr l => ?_)
  · obtain ⟨CC, _, _, _⟩ := gp_eq hm rf.1
    have n := MI_N hm
    have tb : ∀ c d, 0 ≤ c → c < V 57 13 → 0 ≤ d → d < V 57 13 → tbD (dd 3) c d = mtb V 57 c d := fun c d c0 c1 d0 d1 => by
      unfold tbD
      rw [CC]
      exact tb_eq hm rf.1 ⟨c0, c1⟩ ⟨d0, d1⟩
    have q := check_K c (fun c c0 c1 => by
      rw [mI_3, CC] at c1
      rw [mI_3, tb c c c0 c1 c0 c1]
      exact (MI_tb hm ⟨c0, c1⟩ ⟨c0, c1⟩).2.2 rfl) h1
    rw [mI_3, CC, mI_23, rwB_0] at q
    refine cw_mono (Nat.le_refl _) q (fun r G' R' V' q => ?_)
    obtain ⟨v, f, q1, q2⟩ := q
    rcases q2 with ⟨a1, a2, a3⟩ | ⟨a1, a2, a3⟩
    · rw [q1, a2]
      exact ⟨congrArg (fun x => some ((0 : Nat), x)) (cn a1), _, _, CI_N a3 (by omega), hm, Or.inl ⟨a1, rfl, rfl⟩⟩
    · have ck : ckW V v f := ckP_c tb (fun d d0 d1 => rwB_1 ⟨d0, by omega⟩) a2
      rw [q1, cy v f a1 ck]
      exact ⟨rfl, _, _, CI_N a3 (by omega), hm, Or.inr ⟨a1, v, f, ck, rfl, rfl⟩⟩
  · obtain ⟨hm, hp⟩ := hp
    have e13 : V1 57 13 = V 57 13 := l _ _ (by omega) (by omega)
    have e35 : V1 57 35 = V 57 35 := l _ _ (by omega) (by omega)
    refine cwv_mono (by omega) (mcheck_C ly m h1) (fun r V' q => ?_)
    obtain ⟨v, q1, f, q2⟩ := q
    rw [e13, e35] at q2
    rcases q2 with ⟨a1, a2, a3⟩ | ⟨a1, a2, ⟨p1, p2, p3, p4⟩, ⟨k1, k2, k3, k4⟩, rr⟩
    · rcases hp with ⟨_, b1, b2⟩ | ⟨b0, _⟩
      · rw [q1, a2]
        exact ⟨congrArg (fun x => some ((0 : Nat), x)) (cn a1), jm a3 l rf ⟨b1, b2⟩⟩
      · exact absurd b0 a1
    · rcases hp with ⟨b0, _⟩ | ⟨_, v2, f2, ck, b1, b2⟩
      · exact absurd a1 b0
      have em : mtb V1 57 = mtb V 57 := funext (fun c => funext (fun d => l _ _ (by omega) (by omega)))
      have er : (fun i => V1 (57 + 27) i) = fun i => V 84 i := funext (fun i => l _ _ (by omega) (by omega))
      rw [em, er] at a2
      have uu := ckP_u a2 ck
      rw [q1, cy v f a1 a2]
      have e85 : ∀ i, V' 85 i = V 85 i := fun i => (p4 i).trans (l _ _ (by omega) (by omega))
      refine ⟨rfl, p1, p2, ?_, dd, ?_, rfD_e (k1.trans (l _ _ (by omega) (by omega))) (k2.trans (l _ _ (by omega) (by omega))) (fun i => (k3 i).trans (l _ _ (by omega) (by omega))) (fun a i a0 a1 => ?_) rf⟩
      · rw [b1, ← uu.2]
        have e37 : V' 57 37 = f := by rw [rr 57 37 (by omega), if_neg (by omega), if_pos (by omega)]
        have e5 : ∀ a i, 58 ≤ a → a ≤ 60 → V' a i = V a i := fun a i a0 a1 => (p3 a i (by omega) (by omega)).trans (l a i (by omega) (by omega))
        funext j
        unfold miL mL
        rw [e5 59 _ (by omega) (by omega), e5 58 _ (by omega) (by omega), e5 60 _ (by omega) (by omega), e37]
        by_cases j0 : j = 200
        · rw [if_neg (by omega), if_neg (by omega), if_neg (by omega), if_pos j0, if_pos j0]
        · rw [if_neg j0, if_neg j0, if_neg j0]
      · rw [b2]
        refine mI_x (fun j j1 => ?_) (fun j j0 j1 => ?_) ?_ (fun j j0 j1 => ?_)
        · unfold rwI0
          rw [if_neg (by omega), mI_k j1]
        · unfold rwI0
          rw [if_neg (by omega), mI_j ⟨j0, j1⟩, e85]
        · unfold rwI0
          rw [if_pos rfl, mI_23]
          funext a i
          unfold rw0 rwB
          by_cases q : a = 0
          · rw [if_pos q, if_pos q, rr 57 35 (by omega), if_pos (by omega)]
          · have e84 : V' 84 i = V 84 i := by
              rw [rr 84 i (by omega), if_neg (by omega), if_neg (by omega)]
              exact l _ _ (by omega) (by omega)
            rw [if_neg q, if_neg q, if_neg q, e84]
        · unfold rwI0
          rw [if_neg j1, mI_20 j0 j1]
          refine rwK_e ?_ (fun i _ _ => ?_)
          · rw [rr 91 _ (by omega), if_neg (by omega), if_neg (by omega)]
            exact l _ _ (by omega) (by omega)
          · rw [rr 92 _ (by omega), if_neg (by omega), if_neg (by omega)]
            exact l _ _ (by omega) (by omega)
      · by_cases q : a = 85
        · rw [q]; exact e85 i
        · exact (k4 a i (by omega) (by omega)).trans (l _ _ (by omega) (by omega))
theorem mL_200 {V : gV} : mL V 200 = V 57 37 := by unfold mL; rw [if_neg (by omega), if_neg (by omega), if_neg (by omega), if_pos rfl]
theorem j_misfit (h : JS G R V k) (hk : k < 512) : jR (qE (V 57 37)) (qE (V 57 37)) k 132 234 [] G R V := jp h hk (P := sP V) (fun dd c hm rf => cw_mono (Nat.le_refl _) (misfit_K c) (fun r G' R' V' q => by rw [q.1, mL_200]; exact ⟨rfl, _, _, CI_N q.2 (by omega), rfl, rfl⟩)) (fun dd L' I' G1 R1 V1 rf hp ly m vr l => cwv_mono (by omega) (misfit_C ly) (fun r V2 q => by rw [q.1, q.2, l 57 37 (by omega) (by omega)]; exact ⟨rfl, jm (mQ_r m) l rf hp⟩))
theorem j_image (h : JS G R V k) (hk : k < 512) {x1 : Int} (h1 : i32 x1) : jR (qE (imA x1)) (qE (imA x1)) k 135 239 [(0, x1)] G R V := by
  refine jp h hk (P := fun dd L' I' => MI V 57 ∧ L' = mL V ∧ I' = imL (mI V dd) x1) (fun dd c hm rf => ?_) (fun dd L' I' G1 R1 V1 rf hp ly m vr l => ?_)
  · refine cw_mono (by omega) (image_K c h1) (fun r G' R' V' q => ?_)
    obtain ⟨v, q1, q2, q3⟩ := q
    rw [q1, q2]
    exact ⟨rfl, _, _, CI_N q3 (by omega), hm, rfl, rfl⟩
  · refine cwv_mono (by omega) (mimage_c ly m h1) (fun r V' q => ?_)
    obtain ⟨v, q1, q2, q3, q4, q5, q6, ⟨⟨k1, k2, k3⟩, ko, kn⟩, ⟨w35, w37, w27⟩, wo, wn⟩ := q
    obtain ⟨hm, hp1, hp2⟩ := hp
    rw [q1, q2]
    have e4 : V' 57 4 = V 57 4 := k1.trans (l _ _ (by omega) (by omega))
    have e5 : V' 57 5 = V 57 5 := k2.trans (l _ _ (by omega) (by omega))
    have e61 : ∀ i, V' 61 i = V 61 i := fun i => (k3 i).trans (l _ _ (by omega) (by omega))
    have e85 : ∀ i, V' 85 i = if (0 ≤ x1 ∧ x1 ≤ 2) ∧ i = x1 then 1 else V 85 i := fun i => by rw [← l 85 i (by omega) (by omega)]; exact q6 i
    have l3 : ∀ a i, 86 ≤ a → a ≤ 88 → V1 a i = V a i := fun a i a0 a1 => l a i (by omega) (by omega)
    refine ⟨rfl, q3, q4, by rw [hp1]; exact mL_e (fun a i a0 a1 => (q5 a i (by omega) (by omega)).trans (l a i (by omega) (by omega))) (w37.trans (l _ _ (by omega) (by omega))), fun j => if (0 ≤ x1 ∧ x1 ≤ 2) ∧ j = x1 then dd 3 else dd j, ?_, ?_, ?_⟩
    · rw [hp2]
      have eB : rwB V' = rwB V := rwB_e (w35.trans (l _ _ (by omega) (by omega))) (fun i => (w27 i).trans (l _ _ (by omega) (by omega)))
      have eK : ∀ j, ¬ ((0 ≤ x1 ∧ x1 ≤ 2) ∧ j = x1) → rwK V' j = rwK V j := fun j nj => rwK_e ((wo j nj).1.trans (l _ _ (by omega) (by omega))) (fun i i0 i1 => ((wo j nj).2 i i0 i1).trans (l _ _ (by omega) (by omega)))
      refine mI_x (fun j j1 => ?_) (fun j j0 j1 => ?_) ?_ (fun j j0 j1 => ?_)
      · unfold imL
        (try dsimp only)
        by_cases z : 0 ≤ x1 ∧ x1 ≤ 2
        · have nn : ¬ ¬ (0 ≤ x1 ∧ x1 ≤ 2) := fun q => q z
          by_cases y : j = x1
          · rw [if_pos (show (0 ≤ x1 ∧ x1 ≤ 2) ∧ j = x1 from ⟨z, y⟩), if_neg nn, if_pos y, mI_3]
          · rw [if_neg (show ¬ ((0 ≤ x1 ∧ x1 ≤ 2) ∧ j = x1) from fun q => y q.2), if_neg nn, if_neg y, if_neg (show ¬ j = 10 + x1 by omega), if_neg (show ¬ j = 20 + x1 by omega), mI_k j1]
        · rw [if_neg (show ¬ ((0 ≤ x1 ∧ x1 ≤ 2) ∧ j = x1) from fun q => z q.1), if_pos z, mI_k j1]
      · unfold imL
        rw [e85]
        by_cases z : 0 ≤ x1 ∧ x1 ≤ 2
        · have nn : ¬ ¬ (0 ≤ x1 ∧ x1 ≤ 2) := fun q => q z
          by_cases y : j = 10 + x1
          · rw [if_pos (show (0 ≤ x1 ∧ x1 ≤ 2) ∧ j - 10 = x1 from ⟨z, by omega⟩), if_neg nn, if_neg (show ¬ j = x1 by omega), if_pos y]
          · rw [if_neg (show ¬ ((0 ≤ x1 ∧ x1 ≤ 2) ∧ j - 10 = x1) by omega), if_neg nn, if_neg (show ¬ j = x1 by omega), if_neg y, if_neg (show ¬ j = 20 + x1 by omega), mI_j ⟨j0, j1⟩]
        · rw [if_neg (show ¬ ((0 ≤ x1 ∧ x1 ≤ 2) ∧ j - 10 = x1) from fun q => z q.1), if_pos z, mI_j ⟨j0, j1⟩]
      · unfold imL
        rw [eB]
        by_cases z : 0 ≤ x1 ∧ x1 ≤ 2
        · rw [if_neg (fun q => q z), if_neg (by omega), if_neg (by omega), if_neg (by omega), mI_23]
        · rw [if_pos z, mI_23]
      · unfold imL
        by_cases z : 0 ≤ x1 ∧ x1 ≤ 2
        · rw [if_neg (fun q => q z), if_neg (by omega), if_neg (by omega)]
          by_cases y : j = 20 + x1
          · obtain ⟨w1, w2⟩ := wn z
            rw [if_pos y, mI_23, show j - 20 = x1 by omega]
            have c1 : V' 91 x1 = V 57 35 := w1.trans (l _ _ (by omega) (by omega))
            have c2 : ∀ i, 0 ≤ i → i < 300 → V' 92 (300 * x1 + i) = V 84 i := fun i i0 i1 => (w2 i i0 i1).trans (l _ _ (by omega) (by omega))
            funext a i
            unfold rwK rwB
            rw [c1]
            by_cases q : 0 ≤ i ∧ i < 300
            · rw [if_pos q, if_pos q, c2 i q.1 q.2]
            · rw [if_neg q, if_neg q]
          · rw [if_neg y, mI_20 j0 j1]
            exact eK _ (by omega)
        · rw [if_pos z, mI_20 j0 j1]
          exact eK _ (fun q => z q.1)
    · have e61' : (fun i => V' 61 i) = fun i => V 61 i := funext e61
      (try dsimp only)
      rw [if_neg (by omega), e4, e5, e61']
      exact rf.1
    · intro j j0 j1 q
      (try dsimp only)
      by_cases z : (0 ≤ x1 ∧ x1 ≤ 2) ∧ j = x1
      · rw [if_pos z, z.2]
        obtain ⟨a1, a2, a3⟩ := kn z.1
        have b1 : V' 86 x1 = V 57 4 := a1.trans (l _ _ (by omega) (by omega))
        have b2 : V' 87 x1 = V 57 5 := a2.trans (l _ _ (by omega) (by omega))
        rw [b1, b2]
        have g := hm.2.1.1.1
        refine dEq_c rf.1 (fun y p y0 y1 p0 p1 => ?_)
        have n8 := g.2.1
        have N8 := g.2.2.2.1
        exact (a3 _ (by omega) (by omega)).trans (l _ _ (by omega) (by omega))
      · rw [e85, if_neg z] at q
        obtain ⟨a1, a2, a3⟩ := ko j j0 j1 z
        have b1 : V' 86 j = V 86 j := a1.trans (l3 _ _ (by omega) (by omega))
        have b2 : V' 87 j = V 87 j := a2.trans (l3 _ _ (by omega) (by omega))
        rw [if_neg z, b1, b2]
        have g := (hm.2.2.2 j j0 j1 q).1
        refine dEq_c (rf.2 j j0 j1 q) (fun y p y0 y1 p0 p1 => ?_)
        have n8 : V 86 j ≤ 8 := g.2.1
        have N8 : V 87 j ≤ 120 := g.2.2.2.1
        exact (a3 _ (by omega) (by omega)).trans (l3 _ _ (by omega) (by omega))
theorem bkL_e {dd : Int → gD} {x : Int} {V1 : gV} (l : ∀ a i, 57 ≤ a → a ≤ 92 → V1 a i = V a i) : bkA V1 57 x = bkL (mI V dd) x := by
  unfold bkA bkL
  by_cases z : ¬ (0 ≤ x ∧ x ≤ 2)
  · rw [if_pos z, if_pos z]
  · rw [if_neg z, if_neg z, mI_10 (by omega), l _ _ (by omega) (by omega)]
theorem bkL_d {dd dd' : Int → gD} {x : Int} : bkL (mI V dd) x = bkL (mI V dd') x := by
  unfold bkL
  by_cases z : ¬ (0 ≤ x ∧ x ≤ 2)
  · rw [if_pos z, if_pos z]
  · rw [if_neg z, if_neg z, mI_10 (by omega), mI_10 (by omega)]
theorem j_back (h : JS G R V k) (hk : k < 512) {x1 : Int} (h1 : i32 x1) : jR (qE (bkA V 57 x1)) (qE (bkA V 57 x1)) k 136 240 [(0, x1)] G R V := by
  refine jp h hk (P := fun dd L' I' => MI V 57 ∧ L' = mL V ∧ I' = bkI (mI V dd) x1) (fun dd c hm rf => ?_) (fun dd L' I' G1 R1 V1 rf hp ly m vr l => ?_)
  · refine cw_mono (by omega) (back_K c h1) (fun r G' R' V' q => ?_)
    obtain ⟨v, q1, q2, q3⟩ := q
    rw [q1, q2, ← bkL_e (V1 := V) (fun _ _ _ _ => rfl)]
    exact ⟨rfl, _, _, CI_N q3 (by omega), hm, rfl, rfl⟩
  · refine cwv_mono (by omega) (mback_c ly m h1) (fun r V' q => ?_)
    obtain ⟨v, q1, ⟨q2, k8, kn, ko, wn, wo⟩, p1, p2, p3, p4⟩ := q
    obtain ⟨hm, hp1, hp2⟩ := hp
    have eA : bkA V1 57 x1 = bkA V 57 x1 := (bkL_e (dd := dd) l).trans (bkL_e (V1 := V) (fun _ _ _ _ => rfl)).symm
    have eB : bkL (mI V dd) x1 = bkA V 57 x1 := (bkL_e (V1 := V) (fun _ _ _ _ => rfl)).symm
    rw [q1, q2, eA]
    rw [eA] at kn ko wn wo
    have e85 : ∀ i, V' 85 i = V 85 i := fun i => (p4 i).trans (l _ _ (by omega) (by omega))
    have e8 : ∀ a i, 85 ≤ a → a ≤ 88 → V' a i = V a i := fun a i a0 a1 => by
      by_cases q : a = 85
      · rw [q]; exact e85 i
      · exact (k8 a i (by omega) (by omega)).trans (l _ _ (by omega) (by omega))
    have eL : mL V' = mL V := mL_e (fun a i a0 a1 => (p3 a i (by omega) (by omega)).trans (l a i (by omega) (by omega))) ((k8 57 37 (by omega) (by omega)).trans (l _ _ (by omega) (by omega)))
    have eK : ∀ j, rwK V' j = rwK V j := fun j => rwK_e ((k8 91 j (by omega) (by omega)).trans (l _ _ (by omega) (by omega))) (fun i _ _ => (k8 92 _ (by omega) (by omega)).trans (l _ _ (by omega) (by omega)))
    by_cases z : bkA V 57 x1 = 0
    · have xx : 0 ≤ x1 ∧ x1 ≤ 2 := by
        apply Classical.byContradiction
        intro y
        unfold bkA at z
        rw [if_pos y] at z
        omega
      obtain ⟨a0, a1, a2, a3⟩ := ko z
      have l3 : ∀ a i, 86 ≤ a → a ≤ 88 → V1 a i = V a i := fun a i a0 a1 => l a i (by omega) (by omega)
      have b1 : V' 57 4 = V 86 x1 := a1.trans (l3 _ _ (by omega) (by omega))
      have b2 : V' 57 5 = V 87 x1 := a2.trans (l3 _ _ (by omega) (by omega))
      refine ⟨rfl, p1, p2, by rw [hp1]; exact eL, fun j => if j = 3 then dd x1 else dd j, ?_, ?_, ?_⟩
      · rw [hp2]
        obtain ⟨w1, w2⟩ := wo z
        refine mI_x (fun j j1 => ?_) (fun j j0 j1 => ?_) ?_ (fun j j0 j1 => ?_)
        · unfold bkI
          rw [eB]
          by_cases y : j = 3
          · rw [if_pos y, if_pos ⟨z, y⟩, mI_k (by omega)]
          · rw [if_neg y, if_neg (fun q => y q.2), if_neg (by omega), mI_k j1]
        · unfold bkI
          rw [e85, if_neg (by omega), if_neg (by omega), mI_j ⟨j0, j1⟩]
        · unfold bkI
          rw [eB, if_neg (by omega), if_pos ⟨z, rfl⟩, mI_20 (by omega) (by omega), show 20 + x1 - 20 = x1 by omega]
          have c1 : V' 57 35 = V 91 x1 := w1.trans (l _ _ (by omega) (by omega))
          have c2 : ∀ i, 0 ≤ i → i < 300 → V' 84 i = V 92 (300 * x1 + i) := fun i i0 i1 => (w2 i i0 i1).trans (l _ _ (by omega) (by omega))
          funext a i
          unfold rwK rwB
          rw [c1]
          by_cases q : 0 ≤ i ∧ i < 300
          · rw [if_pos q, if_pos q, c2 i q.1 q.2]
          · rw [if_neg q, if_neg q]
        · unfold bkI
          rw [if_neg (by omega), if_neg (by omega), mI_20 j0 j1]
          exact eK _
      · (try dsimp only)
        rw [if_pos rfl, b1, b2]
        have x1' : V 85 x1 = 1 := (l 85 x1 (by omega) (by omega)).symm.trans a0
        refine dEq_c (rf.2 x1 xx.1 (by omega) x1') (fun y p y0 y1 p0 p1 => ?_)
        have c1 : V1 (57 + 30) x1 = V 87 x1 := l3 _ _ (by omega) (by omega)
        have c2 : V1 (57 + 29) x1 = V 86 x1 := l3 _ _ (by omega) (by omega)
        exact (a3 y p y0 (by rw [c1]; exact y1) p0 (by rw [c2]; exact p1)).trans (l3 _ _ (by omega) (by omega))
      · intro j j0 j1 q
        (try dsimp only)
        rw [if_neg (by omega)]
        rw [e85] at q
        have e88 : (fun i => V' 88 (960 * j + i)) = fun i => V 88 (960 * j + i) := funext (fun i => e8 _ _ (by omega) (by omega))
        rw [e8 86 j (by omega) (by omega), e8 87 j (by omega) (by omega), e88]
        exact rf.2 j j0 j1 q
    · obtain ⟨a1, a2, a3⟩ := kn z
      refine ⟨rfl, p1, p2, by rw [hp1]; exact eL, dd, ?_, rfD_e (a1.trans (l _ _ (by omega) (by omega))) (a2.trans (l _ _ (by omega) (by omega))) (fun i => (a3 i).trans (l _ _ (by omega) (by omega))) e8 rf⟩
      rw [hp2, mI_e e85 (fun a i q => ?_)]
      · funext j
        unfold bkI
        rw [eB, if_neg (fun q => z q.1), if_neg (fun q => z q.1)]
      · obtain ⟨w1, w2⟩ := wn z
        rcases q with q | q | q
        · rw [q.1, q.2]; exact w1.trans (l _ _ (by omega) (by omega))
        · rw [q]; exact (w2 i).trans (l _ _ (by omega) (by omega))
        · exact (k8 a i (by omega) (by omega)).trans (l _ _ (by omega) (by omega))
theorem j_status (h : JS G R V k) (hk : k < 512)  : jR qI qI k 137 241 [] G R V := jp h hk (P := sP V) (fun dd c _ rf => opI_j (opI c (fun T g p n C D o m E u th => status_k u th ))) (fun dd L' I' G1 R1 V1 rf hp ly m vr l => aI_j (status_c ly m ) (by omega) l rf hp)
theorem msf_L {n s p : Int} (s0 : 0 ≤ s ∧ s < 4) (p0 : 0 ≤ p ∧ p < 8) : msf V 57 n s p = if p < n ∧ p < mL V s then mL V (100 + 8 * s + p) else p := by
  unfold msf shp
  rw [mL_s (by omega), show 100 + 8 * s + p = 100 + (8 * s + p) by omega, mL_100 (by omega)]
  by_cases y : p < n
  · rw [if_pos y]
    by_cases z : p < V 59 s
    · rw [if_pos z, if_pos ⟨y, z⟩]
    · rw [if_neg z, if_neg (fun q => z q.2)]
  · rw [if_neg y, if_neg (fun q => y q.1)]
theorem j_group (h : JS G R V k) (hk : k < 512) {x1 : Int} (h1 : i32 x1) : jR (qE (gAX (msf V 57 x1) x1)) (qE (gAX (msf V 57 x1) x1)) k 105 181 [(0, x1)] G R V := by
  refine jp h hk (P := fun dd L' I' => L' = mL V ∧ ((gAX (msf V 57 x1) x1 < 0 ∧ I' = mI V dd) ∨ (gOK (msf V 57 x1) x1 (I' 3) ∧ hsX (I' 3) ∧ gAX (msf V 57 x1) x1 = I' 3 0 1 ∧ ∀ j, j ≠ 3 → I' j = rwI0 (mI V dd) j))) (fun dd c hm rf => ?_) (fun dd L' I' G1 R1 V1 rf hp ly m vr l => ?_)
  · refine cw_mono (by omega) (group_X c h1 (sf := msf V 57 x1) (fun s p s0 s1 p0 p1 => msf_L ⟨s0, s1⟩ ⟨p0, p1⟩)) (fun r G' R' V' q => ?_)
    obtain ⟨v, q1, q2, I', q3, q4⟩ := q
    rw [gAX_e q2] at q4
    rw [q1, gAX_e q2]
    exact ⟨rfl, _, I', CI_N q3 (by omega), rfl, q4⟩
  · refine cwv_mono (by omega) (mgroup_c ly m vr h1) (fun r V' q => ?_)
    obtain ⟨v, q1, ⟨q2, k8, kz, kg⟩, p1, p2, p3, p4⟩ := q
    obtain ⟨hp1, hp2⟩ := hp
    have e : msf V1 57 x1 = msf V 57 x1 := by
      funext s p
      unfold msf shp
      rw [l _ _ (by omega) (by omega), l _ _ (by omega) (by omega)]
    have ga := gmX_ans q2
    rw [e] at ga
    rw [gAX_e ga] at kg kz
    rw [q1, gAX_e ga]
    have e85 : ∀ i, V' 85 i = V 85 i := fun i => (p4 i).trans (l _ _ (by omega) (by omega))
    have e8 : ∀ a i, 85 ≤ a → a ≤ 88 → V' a i = V a i := fun a i a0 a1 => by
      by_cases q : a = 85
      · rw [q]; exact e85 i
      · exact (k8 a i (by omega) (by omega)).trans (l _ _ (by omega) (by omega))
    have eL : mL V' = mL V := mL_e (fun a i a0 a1 => (p3 a i (by omega) (by omega)).trans (l a i (by omega) (by omega))) ((k8 57 37 (by omega) (by omega)).trans (l _ _ (by omega) (by omega)))
    have eK : ∀ j, rwK V' j = rwK V j := fun j => rwK_e ((k8 91 j (by omega) (by omega)).trans (l _ _ (by omega) (by omega))) (fun i _ _ => (k8 92 _ (by omega) (by omega)).trans (l _ _ (by omega) (by omega)))
    have e84 : ∀ i, V' 84 i = V 84 i := fun i => (k8 84 i (by omega) (by omega)).trans (l _ _ (by omega) (by omega))
    have im : ∀ k, 0 ≤ k → k < 3 → V' 85 k = 1 → dEq (dd k) (V' 86 k) (V' 87 k) (fun i => V' 88 (960 * k + i)) := fun j j0 j1 q => by
      rw [e85] at q
      have e88 : (fun i => V' 88 (960 * j + i)) = fun i => V 88 (960 * j + i) := funext (fun i => e8 _ _ (by omega) (by omega))
      rw [e8 86 j (by omega) (by omega), e8 87 j (by omega) (by omega), e88]
      exact rf.2 j j0 j1 q
    have N1 : 1 ≤ V' 57 5 := p1.2.1.1.1.2.2.1
    refine ⟨rfl, p1, p2, by rw [hp1]; exact eL, ?_⟩
    rcases hp2 with ⟨n0, hI⟩ | ⟨ok, hx, eN, oth⟩
    · rcases kg with ⟨_, a1, a2, a3⟩ | ⟨a0, _⟩
      · have rq : ∀ a i, rwQ a i → V' a i = V a i := fun a i q => by
          rcases q with q | q | q
          · rw [q.1, q.2]; exact (kz.1 n0).trans (l _ _ (by omega) (by omega))
          · rw [q]; exact e84 i
          · exact (k8 a i (by omega) (by omega)).trans (l _ _ (by omega) (by omega))
        refine ⟨dd, by rw [hI, mI_e e85 rq], ?_, im⟩
        have b1 : V' 57 4 = V 57 4 := a1.trans (l _ _ (by omega) (by omega))
        have b2 : V' 57 5 = V 57 5 := a2.trans (l _ _ (by omega) (by omega))
        have c1 : V1 57 4 = V 57 4 := l _ _ (by omega) (by omega)
        have c2 : V1 57 5 = V 57 5 := l _ _ (by omega) (by omega)
        rw [b1, b2]
        refine dEq_c rf.1 (fun y p y0 y1 p0 p1 => ?_)
        exact (a3 y p y0 (by rw [c2]; exact y1) p0 (by rw [c1]; exact p1)).trans (l _ _ (by omega) (by omega))
      · omega
    · have N2 := ok.1
      rcases kg with ⟨a0, _⟩ | ⟨a0, hn, a4, V5, gx, g5, rows⟩
      · omega
      · have ok2 := gr_OK hn a4 gx g5 rows p1
        rw [e] at ok2
        refine ⟨fun j => if j = 3 then I' 3 else dd j, ?_, ?_, fun k k0 k1 q => ?_⟩
        · have o35 : V' 57 35 = 0 := kz.2 (by omega)
          refine mI_x (fun j j1 => ?_) (fun j j0 j1 => ?_) ?_ (fun j j0 j1 => ?_)
          · by_cases y : j = 3
            · rw [if_pos y, y]
            · rw [if_neg y, oth j y]
              unfold rwI0
              rw [if_neg (by omega), mI_k j1]
          · rw [oth j (by omega), e85]
            unfold rwI0
            rw [if_neg (by omega), mI_j ⟨j0, j1⟩]
          · rw [oth 23 (by omega)]
            unfold rwI0
            rw [if_pos rfl, mI_23]
            funext a i
            unfold rw0 rwB
            by_cases q : a = 0
            · rw [if_pos q, if_pos q, o35]
            · rw [if_neg q, if_neg q, if_neg q, e84]
          · rw [oth j (by omega)]
            unfold rwI0
            rw [if_neg j1, mI_20 j0 j1]
            exact eK _
        · (try dsimp only)
          rw [if_pos rfl]
          exact dEq_OK ok hx ok2
        · (try dsimp only)
          rw [if_neg (by omega)]
          exact im k k0 k1 q
end
