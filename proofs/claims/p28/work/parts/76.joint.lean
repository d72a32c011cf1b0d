/-! the reference reads none but its own cells -/
section
variable {d : Nat} {G : List gS} {R V : gV} {M : Nat}
def gFm (V V' : gV) (M : Nat) : Prop := ∀ a i, (M ≤ a ∧ a ≤ M + 35 ∧ ¬ qW M a i) → V' a i = V a i
theorem stP_r {V' : gV} (gt : GT (V M 5) (mMul V M) (mInv V M)) (hN : V M 5 ≤ 120) (q : gFm V V' M) (h : stP V V M) : stP V' V' M := by
  have e5 : V' M 5 = V M 5 := q _ _ (by omega)
  have e12 : V' M 12 = V M 12 := q _ _ (by omega)
  have e13 : V' M 13 = V M 13 := q _ _ (by omega)
  have em : mMul V' M = mMul V M := funext (fun s => funext (fun t => q _ _ (by omega)))
  have ei : mInv V' M = mInv V M := funext (fun s => q _ _ (by omega))
  obtain ⟨⟨h1, h2, h3, h4, h5, h6, h7, h8⟩, h9, h10⟩ := h
  have H3 := h2.2.1
  have rq : ∀ k, 0 ≤ k → k < V M 12 → req (V M 5) (mHas V M k) (mHas V' M k) := fun k k0 k1 t t0 t1 => (q _ _ (by omega)).symm
  have sS : ∀ k, 0 ≤ k → k < V M 12 → SM (V M 5) (mMul V M) (mHas V M k) := fun k k0 k1 => (h2.2.2.1 k k0 k1).1
  refine ⟨⟨fun _ _ _ _ _ _ _ _ _ _ _ => rfl, ?_, ?_, ?_, ?_, ?_, ?_, ?_⟩, ?_, ?_⟩
  · rw [e5, e12, em]
    exact hps_congr gt rq (fun k k0 k1 => (q _ _ (by omega)).symm) h2
  · rw [e5, e12]
    intro a b a0 a1 b0 b1
    unfold ldP
    rw [e5, e12, em, ei, q (M + 13) (120 * a + b) (by omega)]
    have l := h3 a b a0 a1 b0 b1
    refine ⟨l.1, l.2.1, fun t t0 t1 => ?_⟩
    rw [← cj_congr gt (h2.2.2.1 a a0 a1).1.1 (rq a a0 a1) b t t0 t1, ← l.2.2 t t0 t1]
    exact (rq _ l.1 l.2.1 t t0 t1).symm
  · rw [e13]; exact h4
  · rw [e13, e12]; exact h5
  · rw [e12, e13]
    intro a a0 a1
    rw [q (M + 14) a (by omega)]; exact h6 a a0 a1
  · rw [e12, e13]
    intro a a0 a1
    rw [q (M + 15) a (by omega)]; exact h7 a a0 a1
  · refine ⟨by rw [e5, em, ei, e13]; exact h8.1, by rw [e5, e12]; exact srt_c rq h8.2.1, ?_⟩
    have f : ∀ b, M + 14 ≤ b → b ≤ M + 16 → (fun x => V' b x) = fun x => V b x := fun b q1 q2 => funext (fun x => q _ _ (by omega))
    rw [e5, e12, e13, em, ei, f (M + 14) (by omega) (by omega), f (M + 15) (by omega) (by omega), f (M + 16) (by omega) (by omega)]
    exact cl_c gt sS rq h8.2.2
  · rw [e13]
    intro a b a0 a1 b0 b1
    unfold tbP
    have w := h9 a b a0 a1 b0 b1
    rw [q (M + 18) _ (by omega), e5, em, ei]
    refine ⟨w.1, w.2.1, w.2.2.1, w.2.2.2.trans ?_⟩
    exact tbx_c gt sS rq (h7 a a0 a1) (h7 b b0 b1) (q _ _ (by omega)) (q _ _ (by omega))
  · rw [e12]
    intro a a0 a1
    have w := h10 a a0 a1
    unfold sgX at w ⊢
    rw [q (M + 17) _ (by omega), e12, e5, w]
    exact congrArg jw (mu_S rq a0 a1)
theorem GC_r {V' : gV} (q : gFm V V' M) (h : GC V M) : GC V' M := ⟨imI_congr (q _ _ (by omega)) (q _ _ (by omega)) (fun i => q _ _ (by omega)) (fun i => q _ _ (by omega)) (fun i => q _ _ (by omega)) h.1, stP_r (GC_N h).1 (GC_N h).2 q h.2⟩
theorem MI_r {V' : gV} (q : ∀ a i, M ≤ a → a ≤ M + 35 → V' a i = V a i) (h : MI V M) : MI V' M := by
  obtain ⟨h1, h2, h3, h4⟩ := h
  refine ⟨fun s s0 s1 => by rw [q _ _ (by omega) (by omega)]; exact h1 s s0 s1, GC_r (fun a i z => q a i z.1 z.2.1) h2, by rw [q _ _ (by omega) (by omega), q _ _ (by omega) (by omega)]; exact h3, kpI_congr (fun a i a0 a1 => q a i (by omega) (by omega)) h4⟩
end
/-! room -/
section
variable {G G' : List gS} {R R' V V' : gV} {h : zH} {B M S N : Nat} {W : gV} {L : Int → Int} {I : Int → gD}
theorem zsl_HR (hh : HR h G R V) : zsl h = szG G := by
  have e : h.map zsz = G.map gsz := by
    apply List.ext_getElem?
    intro a
    rw [List.getElem?_map, List.getElem?_map]
    cases hG : G[a]? with
    | none =>
      have : h[a]? = none := by
        rw [List.getElem?_eq_none_iff] at hG ⊢
        rw [hh.1]; exact hG
      rw [this]; rfl
    | some s =>
      cases s with
      | inl ci =>
        obtain ⟨fs, h1, h2, _⟩ := hh.2.1 a ci hG
        rw [h1]
        show some (fs.length) = some ((zkinds ci).length)
        rw [h2]
      | inr q =>
        obtain ⟨ty, n⟩ := q
        obtain ⟨f, h1, _⟩ := hh.2.2.1 a ty n hG
        rw [h1]; rfl
  unfold zsl szG
  rw [e]
theorem CI_room (h : CI G R V B M S N W L I) : G.length ≤ N ∧ szG G ≤ S + 2131000 := by
  obtain ⟨T, ow, us, w, h, hN⟩ := h
  refine ⟨hN, ?_⟩
  have g : ∀ i, i < 5 → w i ≤ 422600 := by
    intro i hi
    rcases h.gr i hi with q | ⟨g, _, _, p, n, C, D, o, m, E, a, _, _, _, _, e⟩
    · omega
    · have := a.n1
      have := a.m1
      omega
  have b : ∀ k, k < 3 → w (5 + k) ≤ 6000 := by
    intro k hk
    rcases h.im k hk with q | ⟨b, _, _, e, _⟩
    · omega
    · omega
  have g0 := g 0 (by omega)
  have g1 := g 1 (by omega)
  have g2 := g 2 (by omega)
  have g3 := g 3 (by omega)
  have g4 := g 4 (by omega)
  have b0 : w 5 ≤ 6000 := b 0 (by omega)
  have b1 : w 6 ≤ 6000 := b 1 (by omega)
  have b2 : w 7 ≤ 6000 := b 2 (by omega)
  have := h.sz
  unfold sw at this
  omega
theorem CI_W (h : CI G R V B M S N W L I) : ∀ a i, M ≤ a → a ≤ M + 35 → V a i = W a i := by
  obtain ⟨T, ow, us, w, h, hN⟩ := h
  exact fun a i z1 z2 => h.c.fz a i _ z1 z2 (h.th a i)
theorem CI_o (h : CI G R V B M S N W L I) : G[B]? = some (gO 7) ∧ lay8 G R M := by
  obtain ⟨T, ow, us, w, h, hN⟩ := h
  exact ⟨ly7_o h.c.ly, h.c.lm⟩
theorem CI_N {N' : Nat} (h : CI G R V B M S N W L I) (e : N ≤ N') : CI G R V B M S N' W L I := by
  obtain ⟨T, ow, us, w, h, hN⟩ := h
  exact ⟨T, ow, us, w, h, by omega⟩
theorem CI_md (h : CI G R V B M S N W L I) (hV : ∀ c i, ¬ (M ≤ c ∧ c ≤ M + 35) → V' c i = V c i) : CI G R V' B M S N V' L I := by
  obtain ⟨T, ow, us, w, h, hN⟩ := h
  obtain ⟨T', h'⟩ := cI_model h hV
  exact ⟨T', ow, us, w, h', hN⟩
end
/-! class and reference side by side -/
abbrev S0 : Nat := 300000
/-- the reference's sheets, as the class's are pinned: lengths, sorts from 10, numbers from 100 -/
def mL (V : gV) : Int → Int := fun j => if j < 10 then V 59 j else if j < 100 then V 58 (j - 10) else if j < 200 then V 60 (j - 100) else if j = 200 then V 57 37 else 0
theorem mL_e {V V' : gV} (h : ∀ a i, 58 ≤ a → a ≤ 60 → V' a i = V a i) (h37 : V' 57 37 = V 57 37) : mL V' = mL V := by
  funext j
  unfold mL
  rw [h 59 _ (by omega) (by omega), h 58 _ (by omega) (by omega), h 60 _ (by omega) (by omega), h37]
/-- the reference's row, and those that it keeps, with acts f -/
def rwB (V : gV) (f : gD) : gD := fun a i => if a = 0 then V 57 35 else if a = 1 then (if 0 ≤ i ∧ i < 300 then V 84 i else 0) else f a i
def rwK (V : gV) (f : gD) (j : Int) : gD := fun a i => if a = 0 then V 91 j else if a = 1 then (if 0 ≤ i ∧ i < 300 then V 92 (300 * j + i) else 0) else f a i
def mI (V : gV) (dd : Int → gD) : Int → gD := fun j => if j < 10 then dd j else if j < 20 then (fun _ _ => V 85 (j - 10)) else if j = 23 then rwB V (dd 33) else rwK V (dd (10 + j)) (j - 20)
abbrev rwQ (a : Nat) (i : Int) : Prop := (a = 57 ∧ i = 35) ∨ a = 84 ∨ a = 91 ∨ a = 92
theorem rwB_e {V V' : gV} {f : gD} (h0 : V' 57 35 = V 57 35) (h : ∀ i, V' 84 i = V 84 i) : rwB V' f = rwB V f := by
  funext a i
  unfold rwB
  rw [h0, h]
theorem rwK_e {V V' : gV} {f : gD} {j : Int} (h0 : V' 91 j = V 91 j) (h : ∀ i, 0 ≤ i → i < 300 → V' 92 (300 * j + i) = V 92 (300 * j + i)) : rwK V' f j = rwK V f j := by
  funext a i
  unfold rwK
  rw [h0]
  by_cases q : 0 ≤ i ∧ i < 300
  · rw [if_pos q, if_pos q, h i q.1 q.2]
  · rw [if_neg q, if_neg q]
theorem mI_e {V V' : gV} {dd : Int → gD} (h : ∀ i, V' 85 i = V 85 i) (r : ∀ a i, rwQ a i → V' a i = V a i) : mI V' dd = mI V dd := by
  funext j
  unfold mI
  rw [h, rwB_e (r 57 35 (by omega)) (fun i => r 84 i (by omega)), rwK_e (r 91 _ (by omega)) (fun i _ _ => r 92 _ (by omega))]
theorem mI_3 {V : gV} {dd : Int → gD} : mI V dd 3 = dd 3 := if_pos (by omega)
theorem mI_k {V : gV} {dd : Int → gD} {k : Int} (h : k < 10) : mI V dd k = dd k := if_pos h
theorem mI_10 {V : gV} {dd : Int → gD} {k : Int} (h : 0 ≤ k ∧ k < 10) : mI V dd (10 + k) = fun _ _ => V 85 k := by
  unfold mI
  rw [if_neg (by omega), if_pos (by omega), show 10 + k - 10 = k by omega]
theorem mI_j {V : gV} {dd : Int → gD} {j : Int} (h : 10 ≤ j ∧ j < 20) : mI V dd j = fun _ _ => V 85 (j - 10) := by
  unfold mI
  rw [if_neg (by omega), if_pos (by omega)]
theorem mI_23 {V : gV} {dd : Int → gD} : mI V dd 23 = rwB V (dd 33) := by
  unfold mI
  rw [if_neg (by omega), if_neg (by omega), if_pos rfl]
theorem mI_20 {V : gV} {dd : Int → gD} {j : Int} (h : 20 ≤ j) (n : j ≠ 23) : mI V dd j = rwK V (dd (10 + j)) (j - 20) := by
  unfold mI
  rw [if_neg (by omega), if_neg (by omega), if_neg n]
theorem rwB_0 {V : gV} {f : gD} : rwB V f 0 0 = V 57 35 := if_pos rfl
theorem rwB_1 {V : gV} {f : gD} {i : Int} (h : 0 ≤ i ∧ i < 300) : rwB V f 1 i = V 84 i := by
  unfold rwB
  rw [if_neg (by omega), if_pos rfl, if_pos h]
theorem rwB_a {V : gV} {f : gD} {a i : Int} (h : 2 ≤ a) : rwB V f a i = f a i := by
  unfold rwB
  rw [if_neg (by omega), if_neg (by omega)]
theorem rwK_a {V : gV} {f : gD} {a i j : Int} (h : 2 ≤ a) : rwK V f j a i = f a i := by
  unfold rwK
  rw [if_neg (by omega), if_neg (by omega)]
/-- two such are the same -/
theorem mI_x {V' : gV} {dd' : Int → gD} {F : Int → gD} (h1 : ∀ j, j < 10 → dd' j = F j) (h2 : ∀ j, 10 ≤ j → j < 20 → (fun _ _ => V' 85 (j - 10)) = F j) (h3 : rwB V' (dd' 33) = F 23) (h4 : ∀ j, 20 ≤ j → j ≠ 23 → rwK V' (dd' (10 + j)) (j - 20) = F j) : mI V' dd' = F := by
  funext j
  by_cases j1 : j < 10
  · rw [mI_k j1]; exact h1 j j1
  · by_cases j2 : j < 20
    · rw [mI_j ⟨by omega, j2⟩]; exact h2 j (by omega) j2
    · by_cases j3 : j = 23
      · rw [j3, mI_23]; exact h3
      · rw [mI_20 (by omega) j3]; exact h4 j (by omega) j3
/-- the class's groups are the reference's rows, on the bench and kept -/
def rwO (V : gV) : Prop := (∀ i, 0 ≤ i → i < V 57 35 → -1000000000000 ≤ V 84 i ∧ V 84 i ≤ 1000000000000) ∧ ∀ k, 0 ≤ k → k < 3 → V 85 k = 1 → V 91 k ≤ 300 ∧ ∀ i, 0 ≤ i → i < V 91 k → -1000000000000 ≤ V 92 (300 * k + i) ∧ V 92 (300 * k + i) ≤ 1000000000000
def rfA (V : gV) (dd : Int → gD) : Prop := rA (dd 33) (dd 3) (fun a => V 78 a) (fun i => V 79 i) ∧ (∀ k, 0 ≤ k → k < 3 → V 85 k = 1 → rA (dd (30 + k)) (dd k) (fun a => V 89 (8 * k + a)) (fun i => V 90 (2400 * k + i))) ∧ rwO V
def rfD (V : gV) (dd : Int → gD) : Prop := dEq (dd 3) (V 57 4) (V 57 5) (fun i => V 61 i) ∧ (∀ k, 0 ≤ k → k < 3 → V 85 k = 1 → dEq (dd k) (V 86 k) (V 87 k) (fun i => V 88 (960 * k + i))) ∧ rfA V dd
abbrev acQ (a : Nat) (i : Int) : Prop := (a = 57 ∧ i = 35) ∨ a = 78 ∨ a = 79 ∨ a = 84 ∨ a = 85 ∨ (89 ≤ a ∧ a ≤ 92)
theorem rwO_e {V V' : gV} (h : ∀ a i, acQ a i → V' a i = V a i) (q : rwO V) : rwO V' := ⟨fun i i0 i1 => by
  rw [h 57 35 (by omega)] at i1
  rw [h 84 i (by omega)]; exact q.1 i i0 i1, fun k k0 k1 z => by
  rw [h 85 k (by omega)] at z
  rw [h 91 k (by omega)]
  exact ⟨(q.2 k k0 k1 z).1, fun i i0 i1 => by rw [h 92 _ (by omega)]; exact (q.2 k k0 k1 z).2 i i0 i1⟩⟩
theorem rfA_e {V V' : gV} {dd : Int → gD} (h : ∀ a i, acQ a i → V' a i = V a i) (q : rfA V dd) : rfA V' dd := ⟨rA_c (fun a _ _ => h 78 a (by omega)) (fun i _ _ => h 79 i (by omega)) q.1, fun k k0 k1 z => by
  rw [h 85 k (by omega)] at z
  exact rA_c (fun a _ _ => h 89 _ (by omega)) (fun i _ _ => h 90 _ (by omega)) (q.2.1 k k0 k1 z), rwO_e h q.2.2⟩
theorem rfD_e {V V' : gV} {dd : Int → gD} (h4 : V' 57 4 = V 57 4) (h5 : V' 57 5 = V 57 5) (h61 : ∀ i, V' 61 i = V 61 i) (h8 : ∀ a i, 85 ≤ a → a ≤ 88 → V' a i = V a i) (ha : ∀ a i, acQ a i → V' a i = V a i) (h : rfD V dd) : rfD V' dd := by
  have e61 : (fun i => V' 61 i) = fun i => V 61 i := funext h61
  refine ⟨by rw [h4, h5, e61]; exact h.1, fun k k0 k1 q => ?_, rfA_e ha h.2.2⟩
  rw [h8 _ _ (by omega) (by omega)] at q
  have e88 : (fun i => V' 88 (960 * k + i)) = fun i => V 88 (960 * k + i) := funext (fun i => h8 _ _ (by omega) (by omega))
  rw [h8 86 k (by omega) (by omega), h8 87 k (by omega) (by omega), e88]
  exact h.2.1 k k0 k1 q
def JS (G : List gS) (R V : gV) (k : Nat) : Prop := ∃ dd : Int → gD, CI G R V 0 57 S0 (93 + 117 * k) V (mL V) (mI V dd) ∧ MI V 57 ∧ rfD V dd
abbrev RM (G : List gS) : Prop := G.length ≤ 60000 ∧ szG G ≤ 2500000
/-- what the reference's call leaves, for the class's to go with -/
def jE (V1 : gV) (L' : Int → Int) (I' : Int → gD) (V2 : gV) : Prop := MI V2 57 ∧ (∀ a i, ¬ (57 ≤ a ∧ a ≤ 92) → V2 a i = V1 a i) ∧ mL V2 = L' ∧ ∃ dd', mI V2 dd' = I' ∧ rfD V2 dd'
def sP (V : gV) (dd : Int → gD) (L' : Int → Int) (I' : Int → gD) : Prop := L' = mL V ∧ I' = mI V dd
section
variable {G : List gS} {R V : gV} {k y z : Nat} {ac am : List zV} {L' : Int → Int} {I' : Int → gD} {dd : Int → gD} {Q1 Q2 : Option zV → Prop}
theorem JS_room (h : JS G R V k) (hk : k ≤ 512) : G[0]? = some (gO 7) ∧ RM G := by
  obtain ⟨dd, h, _⟩ := h
  have e : S0 = 300000 := rfl
  have := CI_room h
  exact ⟨(CI_o h).1, by omega, by omega⟩
theorem jp {P : (Int → gD) → (Int → Int) → (Int → gD) → Prop} (h : JS G R V k) (hk : k < 512) (a : ∀ dd, CI G R V 0 57 S0 (93 + 117 * k) V (mL V) (mI V dd) → MI V 57 → rfD V dd → cw 8 (fun r G' R' V' => Q1 r ∧ ∃ L' I', CI G' R' V' 0 57 S0 (93 + 117 * (k + 1)) V L' I' ∧ P dd L' I') y ac G R V) (b : ∀ (dd : Int → gD) (L' : Int → Int) (I' : Int → gD) (G1 : List gS) (R1 V1 : gV), rfD V dd → P dd L' I' → lay8 G1 R1 57 → MI V1 57 → VR G1 V1 → (∀ a i, 57 ≤ a → a ≤ 92 → V1 a i = V a i) → cwv 8 (fun r V2 => Q2 r ∧ jE V1 L' I' V2) z am G1 R1 V1) : cw 8 (fun r G1 R1 V1 => Q1 r ∧ (G1[57]? = some (gO 8) ∧ RM G1) ∧ cw 8 (fun r2 G2 R2 V2 => Q2 r2 ∧ JS G2 R2 V2 (k + 1)) z am G1 R1 V1) y ac G R V := by
  obtain ⟨dd, hc, hm, rf⟩ := h
  refine cw_mono (Nat.le_refl _) (a dd hc hm rf) (fun r G1 R1 V1 q => ?_)
  obtain ⟨q1, L', I', c1, hp⟩ := q
  have w := CI_W c1
  have e : S0 = 300000 := rfl
  have rm := CI_room c1
  have ly := (CI_o c1).2
  refine ⟨q1, ⟨ly8_o ly, by omega, by omega⟩, cw_vr (fun vr => ?_)⟩
  refine cw_mono (Nat.le_refl _) (b dd L' I' G1 R1 V1 rf hp ly (MI_r w hm) vr (fun a i a0 a1 => w a i (by omega) (by omega))) (fun r2 G2 R2 V2 q => ?_)
  obtain ⟨eG, eR, p2, m2, f2, l2, dd', i2, rf'⟩ := q
  rw [eG, eR]
  refine ⟨p2, dd', ?_, m2, rf'⟩
  rw [l2, i2]
  exact CI_md c1 f2
theorem jm {V1 V2 : gV} (h : mQ V1 V2 57) (l : ∀ a i, 57 ≤ a → a ≤ 92 → V1 a i = V a i) (rf : rfD V dd) (hp : sP V dd L' I') : jE V1 L' I' V2 := by
  obtain ⟨⟨p1, p2, p3, p4⟩, ⟨k1, k2, k3, k4⟩, kr⟩ := h
  refine ⟨p1, p2, ?_, dd, ?_, rfD_e (k1.trans (l _ _ (by omega) (by omega))) (k2.trans (l _ _ (by omega) (by omega))) (fun i => (k3 i).trans (l _ _ (by omega) (by omega))) (fun a i a0 a1 => ?_) (fun a i q => ?_) rf⟩
  · rw [hp.1]; exact mL_e (fun a i a0 a1 => (p3 a i (by omega) (by omega)).trans (l a i (by omega) (by omega))) ((kr 57 37 (by omega)).trans (l _ _ (by omega) (by omega)))
  · rw [hp.2]; exact mI_e (fun i => (p4 i).trans (l _ _ (by omega) (by omega))) (fun a i q => (kr a i (by omega)).trans (l _ _ (by omega) (by omega)))
  · by_cases q : a = 85
    · rw [q]; exact (p4 i).trans (l _ _ (by omega) (by omega))
    · exact (k4 a i (by omega) (by omega)).trans (l _ _ (by omega) (by omega))
  · by_cases z : a = 85
    · rw [z]; exact (p4 i).trans (l _ _ (by omega) (by omega))
    · exact (kr a i (by omega)).trans (l _ _ (by omega) (by omega))
theorem aI_j {d : Nat} {V1 : gV} {G1 : List gS} {R1 : gV} (w : aI d V1 57 z am G1 R1) (hd : d ≤ 8) (l : ∀ a i, 57 ≤ a → a ≤ 92 → V1 a i = V a i) (rf : rfD V dd) (hp : sP V dd L' I') : cwv 8 (fun r V2 => (∃ v, r = some (0, v)) ∧ jE V1 L' I' V2) z am G1 R1 V1 := cwv_mono hd w (fun r V2 q => by obtain ⟨v, e, q⟩ := q; exact ⟨⟨v, e⟩, jm q l rf hp⟩)
theorem aJ_j {d : Nat} {V1 : gV} {G1 : List gS} {R1 : gV} (w : aJ d V1 57 z am G1 R1) (hd : d ≤ 8) (l : ∀ a i, 57 ≤ a → a ≤ 92 → V1 a i = V a i) (rf : rfD V dd) (hp : sP V dd L' I') : cwv 8 (fun r V2 => (∃ v, r = some (2, v)) ∧ jE V1 L' I' V2) z am G1 R1 V1 := cwv_mono hd w (fun r V2 q => by obtain ⟨v, e, q⟩ := q; exact ⟨⟨v, e⟩, jm q l rf hp⟩)
theorem opI_j (w : cw 8 (fun r G' R' V' => ∃ v : Int, r = some (0, v) ∧ i32 v ∧ CI G' R' V' 0 57 S0 (93 + 117 * k) V (mL V) (mI V dd)) y ac G R V) : cw 8 (fun r G' R' V' => (∃ v, r = some (0, v)) ∧ ∃ L' I', CI G' R' V' 0 57 S0 (93 + 117 * (k + 1)) V L' I' ∧ sP V dd L' I') y ac G R V := cw_mono (Nat.le_refl _) w (fun r G' R' V' q => by obtain ⟨v, e, _, q⟩ := q; exact ⟨⟨v, e⟩, _, _, CI_N q (by omega), rfl, rfl⟩)
theorem opJ_j (w : cw 8 (fun r G' R' V' => ∃ v : Int, r = some (2, v) ∧ i64 v ∧ CI G' R' V' 0 57 S0 (93 + 117 * k) V (mL V) (mI V dd)) y ac G R V) : cw 8 (fun r G' R' V' => (∃ v, r = some (2, v)) ∧ ∃ L' I', CI G' R' V' 0 57 S0 (93 + 117 * (k + 1)) V L' I' ∧ sP V dd L' I') y ac G R V := cw_mono (Nat.le_refl _) w (fun r G' R' V' q => by obtain ⟨v, e, _, q⟩ := q; exact ⟨⟨v, e⟩, _, _, CI_N q (by omega), rfl, rfl⟩)
theorem opX_j {X X' : Int} (e : X = X') (w : cw 8 (fun r G' R' V' => r = some (0, X) ∧ CI G' R' V' 0 57 S0 (93 + 117 * k) V (mL V) (mI V dd)) y ac G R V) : cw 8 (fun r G' R' V' => r = some (0, X') ∧ ∃ L' I', CI G' R' V' 0 57 S0 (93 + 117 * (k + 1)) V L' I' ∧ sP V dd L' I') y ac G R V := cw_mono (Nat.le_refl _) w (fun r G' R' V' q => by rw [q.1, e]; exact ⟨rfl, _, _, CI_N q.2 (by omega), rfl, rfl⟩)
abbrev jR (Q1 Q2 : Option zV → Prop) (k y z : Nat) (as : List zV) (G : List gS) (R V : gV) : Prop := cw 8 (fun r G1 R1 V1 => Q1 r ∧ (G1[57]? = some (gO 8) ∧ RM G1) ∧ cw 8 (fun r2 G2 R2 V2 => Q2 r2 ∧ JS G2 R2 V2 (k + 1)) z ((4, ((57 : Nat) : Int)) :: as) G1 R1 V1) y ((4, ((0 : Nat) : Int)) :: as) G R V
abbrev qI : Option zV → Prop := fun r => ∃ v, r = some (0, v)
abbrev qL : Option zV → Prop := fun r => ∃ v, r = some (2, v)
abbrev qE (x : Int) : Option zV → Prop := fun r => r = some (0, x)
theorem mK_j {V1 V2 : gV} (p4 : ∀ i, V2 (57 + 28) i = V1 (57 + 28) i) (h : mK V1 V2 57) (kr : mR V1 V2 57) (l : ∀ a i, 57 ≤ a → a ≤ 92 → V1 a i = V a i) (rf : rfD V dd) (hp : I' = mI V dd) : ∃ dd', mI V2 dd' = I' ∧ rfD V2 dd' := by
  obtain ⟨k1, k2, k3, k4⟩ := h
  refine ⟨dd, ?_, rfD_e (k1.trans (l _ _ (by omega) (by omega))) (k2.trans (l _ _ (by omega) (by omega))) (fun i => (k3 i).trans (l _ _ (by omega) (by omega))) (fun a i a0 a1 => ?_) (fun a i q => ?_) rf⟩
  · rw [hp]; exact mI_e (fun i => (p4 i).trans (l _ _ (by omega) (by omega))) (fun a i q => (kr a i (by omega)).trans (l _ _ (by omega) (by omega)))
  · by_cases q : a = 85
    · rw [q]; exact (p4 i).trans (l _ _ (by omega) (by omega))
    · exact (k4 a i (by omega) (by omega)).trans (l _ _ (by omega) (by omega))
  · by_cases z : a = 85
    · rw [z]; exact (p4 i).trans (l _ _ (by omega) (by omega))
    · exact (kr a i (by omega)).trans (l _ _ (by omega) (by omega))
theorem j_sheet (h : JS G R V k) (hk : k < 512) {x1 x2 x3 : Int} (h1 : i32 x1) (h2 : i32 x2) (h3 : i32 x3) : jR (qE (shA x1 x2 x3)) (qE (shA x1 x2 x3)) k 103 162 [(0, x1), (0, x2), (0, x3)] G R V := by
  refine jp h hk (P := fun dd L' I' => L' = shL (mL V) x1 x2 x3 ∧ I' = mI V dd) (fun dd c _ rf => ?_) (fun dd L' I' G1 R1 V1 rf hp ly m vr l0 => ?_)
  · refine cw_mono (by omega) (sheet_K c h1 h2 h3) (fun r G' R' V' q => ?_)
    obtain ⟨e1, e2, v, q1, q2, q3⟩ := q
    rw [e1, e2, q1, q2]
    exact ⟨rfl, _, _, CI_N q3 (by omega), rfl, rfl⟩
  · refine cwv_mono (by omega) (sheet_c ly m h1 h2 h3) (fun r V' q => ?_)
    obtain ⟨v, q1, q2, q3, q4, q5, q6, q7⟩ := q
    rw [q1, q2]
    have l : ∀ a i, 58 ≤ a → a ≤ 60 → V1 a i = V a i := fun a i a0 a1 => l0 a i (by omega) (by omega)
    refine ⟨rfl, q3, q4, ?_, mK_j q5 q7.1 q7.2 l0 rf hp.2⟩
    rw [hp.1]
    funext j
    have e : ∀ a i, 58 ≤ a → a ≤ 60 → V' a i = shM V1 57 x1 x2 x3 a i := fun a i a0 a1 => q6 a i (by omega) (by omega)
    have e37 : V' 57 37 = V 57 37 := (q7.2 57 37 (by omega)).trans (l0 _ _ (by omega) (by omega))
    have ok0 : ¬ ((0 ≤ x1 ∧ x1 ≤ 3) ∧ (0 ≤ x2 ∧ x2 ≤ 2) ∧ x3 ≤ 8) ∨ ¬ ¬ ((0 ≤ x1 ∧ x1 ≤ 3) ∧ (0 ≤ x2 ∧ x2 ≤ 2) ∧ x3 ≤ 8) := by omega
    rcases ok0 with ok | ok
    · have e2 : mL V' = mL V := mL_e (fun a i a0 a1 => by rw [e a i a0 a1]; unfold shM; rw [if_pos ok]; exact l a i a0 a1) e37
      rw [e2]; unfold shL; rw [if_pos ok]
    · unfold shL mL
      rw [if_neg ok]
      by_cases j1 : j < 10
      · rw [if_pos j1, if_pos j1, e _ _ (by omega) (by omega)]
        unfold shM
        rw [if_neg ok, if_neg (show ¬ (59 = 57 + 1 ∧ j = x1) by omega), if_neg (show ¬ (59 = 57 + 3 ∧ 8 * x1 ≤ j ∧ j < 8 * x1 + 8) by omega), if_neg (show ¬ j = 10 + x1 by omega), if_neg (show ¬ (100 + 8 * x1 ≤ j ∧ j < 108 + 8 * x1) by omega), l _ _ (by omega) (by omega)]
        by_cases z : j = x1
        · rw [if_pos (show 59 = 57 + 2 ∧ j = x1 from ⟨rfl, z⟩), if_pos z]
        · rw [if_neg (show ¬ (59 = 57 + 2 ∧ j = x1) by omega), if_neg z]
      · rw [if_neg j1, if_neg j1, if_neg (show ¬ j = x1 by omega)]
        by_cases j2 : j < 100
        · rw [if_pos j2, if_pos j2, e _ _ (by omega) (by omega)]
          unfold shM
          rw [if_neg ok, if_neg (show ¬ (58 = 57 + 2 ∧ j - 10 = x1) by omega), if_neg (show ¬ (58 = 57 + 3 ∧ 8 * x1 ≤ j - 10 ∧ j - 10 < 8 * x1 + 8) by omega), if_neg (show ¬ (100 + 8 * x1 ≤ j ∧ j < 108 + 8 * x1) by omega), l _ _ (by omega) (by omega)]
          by_cases z : j = 10 + x1
          · rw [if_pos (show 58 = 57 + 1 ∧ j - 10 = x1 by omega), if_pos z]
          · rw [if_neg (show ¬ (58 = 57 + 1 ∧ j - 10 = x1) by omega), if_neg z]
        · by_cases j3 : j < 200
          · rw [if_neg j2, if_neg j2, if_pos j3, if_pos j3, e _ _ (by omega) (by omega)]
            unfold shM
            rw [if_neg ok, if_neg (show ¬ (60 = 57 + 2 ∧ j - 100 = x1) by omega), if_neg (show ¬ (60 = 57 + 1 ∧ j - 100 = x1) by omega), if_neg (show ¬ j = 10 + x1 by omega), l _ _ (by omega) (by omega)]
            by_cases z : 100 + 8 * x1 ≤ j ∧ j < 108 + 8 * x1
            · rw [if_pos (show 60 = 57 + 3 ∧ 8 * x1 ≤ j - 100 ∧ j - 100 < 8 * x1 + 8 by omega), if_pos z]
            · rw [if_neg (show ¬ (60 = 57 + 3 ∧ 8 * x1 ≤ j - 100 ∧ j - 100 < 8 * x1 + 8) by omega), if_neg z]
          · rw [if_neg j2, if_neg j2, if_neg j3, if_neg j3, e37, if_neg (show ¬ j = 10 + x1 by omega), if_neg (show ¬ (100 + 8 * x1 ≤ j ∧ j < 108 + 8 * x1) by omega)]
            split <;> split <;> rfl
theorem mL_s {V : gV} {s : Int} (h : s ≤ 3) : mL V s = V 59 s := by unfold mL; rw [if_pos (by omega)]
theorem mL_10 {V : gV} {s : Int} (h : 0 ≤ s ∧ s ≤ 3) : mL V (10 + s) = V 58 s := by unfold mL; rw [if_neg (by omega), if_pos (by omega), show 10 + s - 10 = s by omega]
theorem mL_100 {V : gV} {s : Int} (h : 0 ≤ s ∧ s < 100) : mL V (100 + s) = V 60 s := by unfold mL; rw [if_neg (by omega), if_neg (by omega), if_pos (by omega), show 100 + s - 100 = s by omega]
theorem wr_AL {V1 : gV} (l : ∀ a i, 58 ≤ a → a ≤ 60 → V1 a i = V a i) {s i : Int} : wrA V1 57 s i = wrL (mL V) s i := by
  unfold wrA wrL
  by_cases z : ¬ (0 ≤ s ∧ s ≤ 3)
  · rw [if_pos z, if_pos z]
  · rw [if_neg z, if_neg z, mL_s (by omega), l _ _ (by omega) (by omega)]
theorem j_write (h : JS G R V k) (hk : k < 512) {x1 x2 x3 : Int} (h1 : i32 x1) (h2 : i32 x2) (h3 : i32 x3) : jR (qE (wrL (mL V) x1 x2)) (qE (wrL (mL V) x1 x2)) k 104 163 [(0, x1), (0, x2), (0, x3)] G R V := by
  refine jp h hk (P := fun dd L' I' => L' = wnL (mL V) x1 x2 x3 ∧ I' = mI V dd) (fun dd c hm rf => ?_) (fun dd L' I' G1 R1 V1 rf hp ly m vr l0 => ?_)
  · refine cw_mono (by omega) (write_K c (fun s s0 s1 => by rw [mL_s s1]; exact (hm.1 s s0 (by omega)).2) h1 h2 h3) (fun r G' R' V' q => ?_)
    obtain ⟨e1, e2, v, q1, q2, q3⟩ := q
    rw [e1, e2, q1, q2]
    exact ⟨rfl, _, _, CI_N q3 (by omega), rfl, rfl⟩
  · refine cwv_mono (by omega) (write_c ly m h1 h2 h3) (fun r V' q => ?_)
    obtain ⟨v, q1, q2, q3, q4, q5, q6, q7⟩ := q
    have l : ∀ a i, 58 ≤ a → a ≤ 60 → V1 a i = V a i := fun a i a0 a1 => l0 a i (by omega) (by omega)
    rw [q1, q2, wr_AL l]
    refine ⟨rfl, q3, q4, ?_, mK_j q5 q7.1 q7.2 l0 rf hp.2⟩
    rw [hp.1]
    funext j
    have e : ∀ a i, 58 ≤ a → a ≤ 60 → V' a i = wrM V1 57 x1 x2 x3 a i := fun a i a0 a1 => q6 a i (by omega) (by omega)
    have e37 : V' 57 37 = V 57 37 := (q7.2 57 37 (by omega)).trans (l0 _ _ (by omega) (by omega))
    unfold wrM at e
    rw [wr_AL l] at e
    unfold wnL
    by_cases z : wrL (mL V) x1 x2 = 0 ∧ j = 100 + 8 * x1 + x2
    · have s0 : 0 ≤ x1 ∧ x1 ≤ 3 := by
        apply Classical.byContradiction
        intro y
        have := z.1
        unfold wrL at this
        rw [if_pos y] at this
        omega
      have i0 : 0 ≤ x2 := by
        apply Classical.byContradiction
        intro y
        have := z.1
        unfold wrL at this
        rw [if_neg (fun q => q s0)] at this
        by_cases y2 : mL V x1 = -1
        · rw [if_pos y2] at this; omega
        · rw [if_neg y2, if_pos (by omega)] at this; omega
      have i1 : x2 ≤ 7 := by
        have y1 := (m.1 x1 s0.1 (by omega)).2
        have y0 : V1 59 x1 ≤ 8 := y1
        rw [l _ _ (by omega) (by omega)] at y0
        apply Classical.byContradiction
        intro y
        have := z.1
        unfold wrL at this
        rw [if_neg (fun q => q s0)] at this
        by_cases y2 : mL V x1 = -1
        · rw [if_pos y2] at this; omega
        · rw [if_neg y2, if_pos (by rw [mL_s s0.2]; omega)] at this; omega
      rw [if_pos z, z.2, show 100 + 8 * x1 + x2 = 100 + (8 * x1 + x2) by omega, mL_100 (by omega), e _ _ (by omega) (by omega), if_pos ⟨z.1, by omega, rfl⟩, l _ _ (by omega) (by omega), mL_10 s0]
    · rw [if_neg z]
      unfold mL
      by_cases j1 : j < 10
      · rw [if_pos j1, if_pos j1, e _ _ (by omega) (by omega), if_neg (by omega), l _ _ (by omega) (by omega)]
      · rw [if_neg j1, if_neg j1]
        by_cases j2 : j < 100
        · rw [if_pos j2, if_pos j2, e _ _ (by omega) (by omega), if_neg (by omega), l _ _ (by omega) (by omega)]
        · rw [if_neg j2, if_neg j2]
          by_cases j3 : j < 200
          · rw [if_pos j3, if_pos j3, e _ _ (by omega) (by omega), if_neg (fun y => z ⟨y.1, by omega⟩), l _ _ (by omega) (by omega)]
          · rw [if_neg j3, if_neg j3, e37]
theorem rt_e {V1 : gV} (l : ∀ a i, 57 ≤ a → a ≤ 92 → V1 a i = V a i) {t p : Int} : rtX V1 57 t p = rtX V 57 t p := by
  unfold rtX
  rw [l 57 4 (by omega) (by omega), l 57 5 (by omega) (by omega), l (57 + 4) _ (by omega) (by omega)]
theorem rp_e {V1 : gV} (l : ∀ a i, 57 ≤ a → a ≤ 92 → V1 a i = V a i) {t p : Int} : rmX V1 57 t p = rmX V 57 t p := by
  unfold rmX
  rw [l 57 5 (by omega) (by omega), l (57 + 5) _ (by omega) (by omega)]
theorem j_turn (h : JS G R V k) (hk : k < 512) {x1 x2 : Int} (h1 : i32 x1) (h2 : i32 x2) : jR (qE (rtX V 57 x1 x2)) (qE (rtX V 57 x1 x2)) k 107 186 [(0, x1), (0, x2)] G R V := jp h hk (P := sP V) (fun dd c hm rf => opX_j (tn_rt hm rf.1) (opX c (fun T g p n C D o m E u lk th => turn_X u (by rw [mI_3] at lk; exact lk) (dEq_c0 hm rf.1) th h1 h2))) (fun dd L' I' G1 R1 V1 rf hp ly m vr l => cwv_mono (by omega) (turn_C ly m h1 h2) (fun r V2 q => by rw [q.1, q.2, rt_e l]; exact ⟨rfl, jm (mQ_r m) l rf hp⟩))
theorem j_product (h : JS G R V k) (hk : k < 512) {x1 x2 : Int} (h1 : i32 x1) (h2 : i32 x2) : jR (qE (rmX V 57 x1 x2)) (qE (rmX V 57 x1 x2)) k 108 187 [(0, x1), (0, x2)] G R V := jp h hk (P := sP V) (fun dd c hm rf => opX_j (pr_rp hm rf.1) (opX c (fun T g p n C D o m E u lk th => product_X u (by rw [mI_3] at lk; exact lk) th h1 h2))) (fun dd L' I' G1 R1 V1 rf hp ly m vr l => cwv_mono (by omega) (product_C ly m h1 h2) (fun r V2 q => by rw [q.1, q.2, rp_e l]; exact ⟨rfl, jm (mQ_r m) l rf hp⟩))
theorem rh_e {V1 : gV} (l : ∀ a i, 57 ≤ a → a ≤ 92 → V1 a i = V a i) {t p : Int} : rhX V1 57 t p = rhX V 57 t p := by
  unfold rhX
  rw [l 57 12 (by omega) (by omega), l 57 5 (by omega) (by omega), l (57 + 9) _ (by omega) (by omega)]
theorem j_has (h : JS G R V k) (hk : k < 512) {x1 x2 : Int} (h1 : i32 x1) (h2 : i32 x2) : jR (qE (rhX V 57 x1 x2)) (qE (rhX V 57 x1 x2)) k 111 200 [(0, x1), (0, x2)] G R V := jp h hk (P := sP V) (fun dd c hm rf => opX_j (ha_rh hm rf.1) (opX c (fun T g p n C D o m E u lk th => has_X u (by rw [mI_3] at lk; exact lk) (dEq_b hm rf.1).1 (dEq_b hm rf.1).2 th h1 h2))) (fun dd L' I' G1 R1 V1 rf hp ly m vr l => cwv_mono (by omega) (has_C ly m h1 h2) (fun r V2 q => by rw [q.1, q.2, rh_e l]; exact ⟨rfl, jm (mQ_r m) l rf hp⟩))
theorem opP_j {P Q : Int → Prop} (pq : ∀ v, P v → Q v) (uq : ∀ v w, Q v → Q w → v = w) (w : cw 8 (fun r G' R' V' => ∃ v : Int, r = some (0, v) ∧ P v ∧ CI G' R' V' 0 57 S0 (93 + 117 * k) V (mL V) (mI V dd)) y ac G R V) : cw 8 (fun r G' R' V' => r = some (0, the Q) ∧ ∃ L' I', CI G' R' V' 0 57 S0 (93 + 117 * (k + 1)) V L' I' ∧ sP V dd L' I') y ac G R V := cw_mono (Nat.le_refl _) w (fun r G' R' V' q => by
  obtain ⟨v, q1, q2, q3⟩ := q
  rw [q1, the_e uq (pq v q2)]
  exact ⟨rfl, _, _, CI_N q3 (by omega), rfl, rfl⟩)
theorem qF_j {Q : Int → Prop} {d : Nat} {V1 : gV} {G1 : List gS} {R1 : gV} (uq : ∀ v w, Q v → Q w → v = w) (hd : d ≤ 8) (m : MI V1 57) (w : cwv d (fun r V' => ∃ v, r = some (0, v) ∧ (qF V1 V' 57 ∧ Q v)) z am G1 R1 V1) (l : ∀ a i, 57 ≤ a → a ≤ 92 → V1 a i = V a i) (rf : rfD V dd) (hp : sP V dd L' I') : cwv 8 (fun r V2 => r = some (0, the Q) ∧ jE V1 L' I' V2) z am G1 R1 V1 := cwv_mono hd w (fun r V2 q => by
  obtain ⟨v, q1, q2, q3⟩ := q
  rw [q1, the_e uq q3]
  exact ⟨rfl, jm (mQ_q m q2) l rf hp⟩)
theorem has_e {V1 : gV} (l : ∀ a i, 57 ≤ a → a ≤ 92 → V1 a i = V a i) : mHas V1 57 = mHas V 57 := funext (fun k => funext (fun t => l _ _ (by omega) (by omega)))
theorem dEq_mr {d : gD} (h : dEq d (V 57 4) (V 57 5) (fun i => V 61 i)) : ∀ s t, 0 ≤ s → s < d 0 1 → 0 ≤ t → t < d 0 1 → 0 ≤ d (2 + s) t ∧ d (2 + s) t < d 0 1 := fun s t s0 s1 t0 t1 => by
  have e := h.2.1
  have m := h.2.2.2.1 s t s0 (by omega) t0 (by omega)
  have m1 := m.1
  have m2 := m.2.1
  rw [e]
  exact ⟨m1, m2⟩
theorem j_join (h : JS G R V k) (hk : k < 512) {x1 x2 x3 : Int} (h1 : i32 x1) (h2 : i32 x2) (h3 : i32 x3) : jR (qE (the (jnP (V 57 5) (V 57 12) (mHas V 57) x1 x2 x3))) (qE (the (jnP (V 57 5) (V 57 12) (mHas V 57) x1 x2 x3))) k 112 201 [(0, x1), (0, x2), (0, x3)] G R V := by
  refine jp h hk (P := fun dd L' I' => MI V 57 ∧ sP V dd L' I') (fun dd c hm rf => ?_) (fun dd L' I' G1 R1 V1 rf hp ly m vr l => ?_)
  · have uq := fun v w => jnP_u (v := v) (v' := w) (h := x1) (k := x2) (w := x3) hm.2.1.2.1.2.1
    obtain ⟨K, rq, _⟩ := hp_eq hm rf.1
    have e1 := rf.1.2.1
    have n := MI_N hm
    refine cw_mono (Nat.le_refl _) (opP_j (Q := jnP (V 57 5) (V 57 12) (mHas V 57) x1 x2 x3) (fun v q => ?_) uq (opP c (fun T g p n C D o m E u lk th => join_X u (by rw [mI_3] at lk; exact lk) rf.1.2.2.2.2 (by omega) (dEq_mr rf.1) th h1 h2 h3))) (fun r G' R' V' q => ?_)
    · rw [e1, K] at q
      exact jnP_c rq q
    · obtain ⟨q1, L', I', q2, q3⟩ := q
      exact ⟨q1, L', I', q2, hm, q3⟩
  · have uq := fun v w => jnP_u (v := v) (v' := w) (h := x1) (k := x2) (w := x3) hp.1.2.1.2.1.2.1
    have jc := join_C ly m h1 h2 h3
    rw [l 57 5 (by omega) (by omega), l 57 12 (by omega) (by omega), has_e l] at jc
    exact qF_j uq (by omega) m jc l rf hp.2
theorem mm_e {V1 : gV} (l : ∀ a i, 57 ≤ a → a ≤ 92 → V1 a i = V a i) : mMul V1 57 = mMul V 57 ∧ mInv V1 57 = mInv V 57 := ⟨funext (fun s => funext (fun t => l _ _ (by omega) (by omega))), funext (fun s => l _ _ (by omega) (by omega))⟩
theorem roc_e {V1 : gV} (l : ∀ a i, 57 ≤ a → a ≤ 92 → V1 a i = V a i) {c w : Int} : rocX V1 57 c w = rocX V 57 c w := by
  unfold rocX
  rw [l 57 13 (by omega) (by omega), l (57 + 15) c (by omega) (by omega), l (57 + 16) c (by omega) (by omega), l (57 + 10) (V (57 + 15) c) (by omega) (by omega)]
theorem rwi_e {V1 : gV} (l : ∀ a i, 57 ≤ a → a ≤ 92 → V1 a i = V a i) {c e w : Int} : rwiX V1 57 c e w = rwiX V 57 c e w := by
  have hh := has_e l
  have f14 : (fun k => V1 (57 + 14) k) = fun k => V (57 + 14) k := funext (fun k => l _ _ (by omega) (by omega))
  have f15 : (fun k => V1 (57 + 15) k) = fun k => V (57 + 15) k := funext (fun k => l _ _ (by omega) (by omega))
  have s1 : sm (fun k => bi (V1 (57 + 14) k = e) * Lq (V1 57 5) (mHas V1 57) k (V1 (57 + 15) c)) (V1 57 12).toNat = sm (fun k => bi (V (57 + 14) k = e) * Lq (V 57 5) (mHas V 57) k (V (57 + 15) c)) (V 57 12).toNat := by
    rw [l 57 12 (by omega) (by omega), l 57 5 (by omega) (by omega), hh, l (57 + 15) c (by omega) (by omega)]
    exact sm_congr (fun k _ _ => by rw [l (57 + 14) k (by omega) (by omega)])
  unfold rwiX
  rw [s1, l 57 13 (by omega) (by omega)]
  show (if _ then (if w = 0 then _ else ov (V1 57 5) (V1 57 12) (mHas V1 57) (fun h => V1 (57 + 14) h) (fun c => V1 (57 + 15) c) c e) else -1) = _
  rw [l 57 12 (by omega) (by omega), l 57 5 (by omega) (by omega), hh, f14, f15]
theorem rta_e {V1 : gV} (l : ∀ a i, 57 ≤ a → a ≤ 92 → V1 a i = V a i) {c e : Int} : rtaX V1 57 c e = rtaX V 57 c e := by
  unfold rtaX
  rw [l 57 13 (by omega) (by omega), l (57 + 18) _ (by omega) (by omega)]
theorem rsi_e {V1 : gV} (l : ∀ a i, 57 ≤ a → a ≤ 92 → V1 a i = V a i) : rsiX V1 57 = rsiX V 57 := by
  have s1 : sm (fun h => bi (V1 (57 + 16) (V1 (57 + 14) h) = 1)) (V1 57 12).toNat = sm (fun h => bi (V (57 + 16) (V (57 + 14) h) = 1)) (V 57 12).toNat := by
    rw [l 57 12 (by omega) (by omega)]
    exact sm_congr (fun k _ _ => by rw [l (57 + 14) k (by omega) (by omega), l (57 + 16) _ (by omega) (by omega)])
  unfold rsiX
  rw [s1]
theorem rot_e {V1 : gV} (l : ∀ a i, 57 ≤ a → a ≤ 92 → V1 a i = V a i) : rotP V1 57 = rotP V 57 := by
  have f10 : (fun k => V1 (57 + 10) k) = fun k => V (57 + 10) k := funext (fun k => l _ _ (by omega) (by omega))
  show otP (V1 57 5) (V1 57 12) (mMul V1 57) (mInv V1 57) (mHas V1 57) (fun k => V1 (57 + 10) k) = _
  rw [l 57 5 (by omega) (by omega), l 57 12 (by omega) (by omega), (mm_e l).1, (mm_e l).2, has_e l, f10]
abbrev rsyV (V : gV) : Int → Int → Prop := syV (V 57 5) (V 57 13) (fun c => V (57 + 10) (V (57 + 15) c))
theorem rsy_e {V1 : gV} (l : ∀ a i, 57 ≤ a → a ≤ 92 → V1 a i = V a i) : rsyV V1 = rsyV V := by
  have f : (fun c => V1 (57 + 10) (V1 (57 + 15) c)) = fun c => V (57 + 10) (V (57 + 15) c) := funext (fun c => by rw [l (57 + 15) c (by omega) (by omega), l (57 + 10) _ (by omega) (by omega)])
  show syV (V1 57 5) (V1 57 13) (fun c => V1 (57 + 10) (V1 (57 + 15) c)) = _
  rw [l 57 5 (by omega) (by omega), l 57 13 (by omega) (by omega), f]
theorem j_ofTurn (h : JS G R V k) (hk : k < 512) {x1 x2 : Int} (h1 : i32 x1) (h2 : i32 x2) : jR (qE (the (rotP V 57 x1 x2))) (qE (the (rotP V 57 x1 x2))) k 109 191 [(0, x1), (0, x2)] G R V := jp h hk (P := sP V) (fun dd c hm rf => opX_j (the_e otP_u (ot_eq hm rf.1)) (opX c (fun T g p n C D o m E u lk th => ofTurn_X u (by rw [mI_3] at lk; exact lk) (dQ_hg rf.1) th h1 h2))) (fun dd L' I' G1 R1 V1 rf hp ly m vr l => by
  have c := ofTurn_C ly m h1 h2
  rw [rot_e l] at c
  exact qF_j otP_u (by omega) m c l rf hp)
theorem j_ofClass (h : JS G R V k) (hk : k < 512) {x1 x2 : Int} (h1 : i32 x1) (h2 : i32 x2) : jR (qE (rocX V 57 x1 x2)) (qE (rocX V 57 x1 x2)) k 113 202 [(0, x1), (0, x2)] G R V := jp h hk (P := sP V) (fun dd c hm rf => opX_j (oc_eq hm rf.1) (opX c (fun T g p n C D o m E u lk th => ofClass_X u (by rw [mI_3] at lk; exact lk) th h1 h2))) (fun dd L' I' G1 R1 V1 rf hp ly m vr l => cwv_mono (by omega) (ofClass_C ly m h1 h2) (fun r V2 q => by rw [q.1, q.2, roc_e l]; exact ⟨rfl, jm (mQ_r m) l rf hp⟩))
theorem j_within (h : JS G R V k) (hk : k < 512) {x1 x2 x3 : Int} (h1 : i32 x1) (h2 : i32 x2) (h3 : i32 x3) : jR (qE (rwiX V 57 x1 x2 x3)) (qE (rwiX V 57 x1 x2 x3)) k 114 203 [(0, x1), (0, x2), (0, x3)] G R V := jp h hk (P := sP V) (fun dd c hm rf => opX_j (wi_eq hm rf.1) (opX c (fun T g p n C D o m E u lk th => within_X u (by rw [mI_3] at lk; exact lk) (dQ_hg rf.1) th h1 h2 h3))) (fun dd L' I' G1 R1 V1 rf hp ly m vr l => cwv_mono (by omega) (within_C ly m h1 h2 h3) (fun r V2 q => by rw [q.1, q.2, rwi_e l]; exact ⟨rfl, jm (mQ_r m) l rf hp⟩))
theorem j_table (h : JS G R V k) (hk : k < 512) {x1 x2 : Int} (h1 : i32 x1) (h2 : i32 x2) : jR (qE (rtaX V 57 x1 x2)) (qE (rtaX V 57 x1 x2)) k 115 204 [(0, x1), (0, x2)] G R V := jp h hk (P := sP V) (fun dd c hm rf => opX_j (ta_eq hm rf.1) (opX c (fun T g p n C D o m E u lk th => table_X u (by rw [mI_3] at lk; exact lk) th h1 h2))) (fun dd L' I' G1 R1 V1 rf hp ly m vr l => cwv_mono (by omega) (table_C ly m h1 h2) (fun r V2 q => by rw [q.1, q.2, rta_e l]; exact ⟨rfl, jm (mQ_r m) l rf hp⟩))
theorem j_sylow (h : JS G R V k) (hk : k < 512) {x1 : Int} (h1 : i32 x1) : jR (qE (the (rsyV V x1))) (qE (the (rsyV V x1))) k 116 205 [(0, x1)] G R V := by
  have uq : ∀ v w, rsyV V x1 v → rsyV V x1 w → v = w := fun v w a b => syV_u a b
  refine jp h hk (P := sP V) (fun dd c hm rf => ?_) (fun dd L' I' G1 R1 V1 rf hp ly m vr l => ?_)
  · have e1 := rf.1.2.1
    have n := MI_N hm
    obtain ⟨K, rq, sz⟩ := hp_eq hm rf.1
    obtain ⟨CC, ce, fe, ne⟩ := gp_eq hm rf.1
    refine opP_j (Q := rsyV V x1) (fun v q => ?_) uq (opP c (fun T g p n C D o m E u lk th => sylow_X u (by rw [mI_3] at lk; exact lk) (by omega) th h1))
    rw [e1, CC] at q
    refine syV_c (fun c c0 c1 => ?_) q
    have f := MI_fo hm (c := c) ⟨c0, c1⟩
    (try dsimp only)
    rw [fe c c0 c1]
    exact sz _ f.1 f.2
  · have c := sylow_C ly m h1
    have c' : cwv 1 (fun r V' => ∃ v, r = some (0, v) ∧ (qF V1 V' 57 ∧ rsyV V1 x1 v)) 205 [(4, ((57 : Nat) : Int)), (0, x1)] G1 R1 V1 := c
    rw [rsy_e l] at c'
    exact qF_j uq (by omega) m c' l rf hp
theorem j_simple (h : JS G R V k) (hk : k < 512)  : jR (qE (rsiX V 57)) (qE (rsiX V 57)) k 118 207 [] G R V := jp h hk (P := sP V) (fun dd c hm rf => opX_j (si_eq hm rf.1) (opX c (fun T g p n C D o m E u lk th => simple_X u (by rw [mI_3] at lk; exact lk) th))) (fun dd L' I' G1 R1 V1 rf hp ly m vr l => cwv_mono (by omega) (simple_C ly m) (fun r V2 q => by rw [q.1, q.2, rsi_e l]; exact ⟨rfl, jm (mQ_r m) l rf hp⟩))
theorem rch_e {V1 : gV} (l : ∀ a i, 57 ≤ a → a ≤ 92 → V1 a i = V a i) {c w : Int} : rchX V1 57 c w = rchX V 57 c w := by
  unfold rchX
  show chV (gn (V1 57 5) (V1 57 12) (mHas V1 57) c.toNat 0) (V1 57 5 ^ c.toNat) c w = _
  rw [l 57 5 (by omega) (by omega), l 57 12 (by omega) (by omega), has_e l]
theorem rgn_e {V1 : gV} (l : ∀ a i, 57 ≤ a → a ≤ 92 → V1 a i = V a i) : rgn V1 57 = rgn V 57 := by
  funext c
  show gn (V1 57 5) (V1 57 12) (mHas V1 57) c.toNat 0 = _
  rw [l 57 5 (by omega) (by omega), l 57 12 (by omega) (by omega), has_e l]
theorem opY_j {X X' : Int} (e : X = X') (w : cw 8 (fun r G' R' V' => r = some (2, X) ∧ CI G' R' V' 0 57 S0 (93 + 117 * k) V (mL V) (mI V dd)) y ac G R V) : cw 8 (fun r G' R' V' => r = some (2, X') ∧ ∃ L' I', CI G' R' V' 0 57 S0 (93 + 117 * (k + 1)) V L' I' ∧ sP V dd L' I') y ac G R V := cw_mono (Nat.le_refl _) w (fun r G' R' V' q => by rw [q.1, e]; exact ⟨rfl, _, _, CI_N q.2 (by omega), rfl, rfl⟩)
abbrev qK (x : Int) : Option zV → Prop := fun r => r = some (2, x)
theorem j_chance (h : JS G R V k) (hk : k < 512) {x1 x2 : Int} (h1 : i32 x1) (h2 : i32 x2) : jR (qK (rchX V 57 x1 x2)) (qK (rchX V 57 x1 x2)) k 133 237 [(0, x1), (0, x2)] G R V := jp h hk (P := sP V) (fun dd c hm rf => opY_j (ch_eq hm rf.1 x1 x2) (opY c (fun T g p n C D o m E u lk th => chance_X u (by rw [mI_3] at lk; exact lk) rf.1.2.2.2.2 (dEq_b hm rf.1).2 th h1 h2))) (fun dd L' I' G1 R1 V1 rf hp ly m vr l => cwv_mono (by omega) (chance_C ly m h1 h2) (fun r V2 q => by rw [q.1, q.2, rch_e l]; exact ⟨rfl, jm (mQ_r m) l rf hp⟩))
theorem j_rank (h : JS G R V k) (hk : k < 512)  : jR (qE (the (rkP (rgn V 57)))) (qE (the (rkP (rgn V 57)))) k 134 238 [] G R V := by
  refine jp h hk (P := sP V) (fun dd c hm rf => ?_) (fun dd L' I' G1 R1 V1 rf hp ly m vr l => ?_)
  · refine opP_j (Q := rkP (rgn V 57)) (fun v q => ?_) rkP_u (opP c (fun T g p n C D o m E u lk th => rank_X u (by rw [mI_3] at lk; exact lk) rf.1.2.2.2.2 (dEq_b hm rf.1).2 th))
    have e : dgn (dd 3) = rgn V 57 := funext (fun k => gn_eq hm rf.1 k)
    rw [e] at q
    exact q
  · have c := rank_C ly m
    rw [rgn_e l] at c
    exact qF_j rkP_u (by omega) m c l rf hp
theorem rhp_e {V1 : gV} (l : ∀ a i, 57 ≤ a → a ≤ 92 → V1 a i = V a i) : rhpP V1 57 = rhpP V 57 := by
  have f10 : (fun k => V1 (57 + 10) k) = fun k => V (57 + 10) k := funext (fun k => l _ _ (by omega) (by omega))
  have f14 : (fun k => V1 (57 + 14) k) = fun k => V (57 + 14) k := funext (fun k => l _ _ (by omega) (by omega))
  have f16 : (fun k => V1 (57 + 16) k) = fun k => V (57 + 16) k := funext (fun k => l _ _ (by omega) (by omega))
  show hpP (V1 57 5) (V1 57 12) (mMul V1 57) (mInv V1 57) (mHas V1 57) (fun k => V1 (57 + 10) k) (fun k => V1 (57 + 14) k) (fun k => V1 (57 + 16) k) (mu (V1 57 12) (Lq (V1 57 5) (mHas V1 57))) = _
  rw [l 57 5 (by omega) (by omega), l 57 12 (by omega) (by omega), (mm_e l).1, (mm_e l).2, has_e l, f10, f14, f16]
theorem rdv_e {V1 : gV} (l : ∀ a i, 57 ≤ a → a ≤ 92 → V1 a i = V a i) : rdv V1 57 = rdv V 57 := by
  funext h
  unfold rdv
  rw [l 57 5 (by omega) (by omega), l 57 12 (by omega) (by omega), (mm_e l).1, (mm_e l).2, has_e l]
theorem rdn_e {V1 : gV} (l : ∀ a i, 57 ≤ a → a ≤ 92 → V1 a i = V a i) {k : Int} : rdnX V1 57 k = rdnX V 57 k := by
  unfold rdnX
  rw [rdv_e l, l 57 12 (by omega) (by omega)]
theorem j_heap (h : JS G R V k) (hk : k < 512) {x1 x2 : Int} (h1 : i32 x1) (h2 : i32 x2) : jR (qE (the (rhpP V 57 x1 x2))) (qE (the (rhpP V 57 x1 x2))) k 110 199 [(0, x1), (0, x2)] G R V := by
  refine jp h hk (P := fun dd L' I' => MI V 57 ∧ sP V dd L' I') (fun dd c hm rf => ?_) (fun dd L' I' G1 R1 V1 rf hp ly m vr l => ?_)
  · have uq : ∀ v w, rhpP V 57 x1 x2 v → rhpP V 57 x1 x2 w → v = w := fun v w => hpP_u (MI_hp hm)
    refine cw_mono (Nat.le_refl _) (opP_j (Q := rhpP V 57 x1 x2) (fun v q => hp_eqd hm rf.1 q) uq (opP c (fun T g p n C D o m E u lk th => heap_X u (by rw [mI_3] at lk; exact lk) rf.1.2.2.2.2 (by have e1 := rf.1.2.1; have n := MI_N hm; omega) th h1 h2))) (fun r G' R' V' q => ?_)
    obtain ⟨q1, L', I', q2, q3⟩ := q
    exact ⟨q1, L', I', q2, hm, q3⟩
  · have uq : ∀ v w, rhpP V 57 x1 x2 v → rhpP V 57 x1 x2 w → v = w := fun v w => hpP_u (MI_hp hp.1)
    have c := heap_C ly m h1 h2
    rw [rhp_e l] at c
    exact qF_j uq (by omega) m c l rf hp.2
theorem j_down (h : JS G R V k) (hk : k < 512) {x1 : Int} (h1 : i32 x1) : jR (qE (rdnX V 57 x1)) (qE (rdnX V 57 x1)) k 117 206 [(0, x1)] G R V := jp h hk (P := sP V) (fun dd c hm rf => opX_j (dn_eq hm rf.1 x1) (opX c (fun T g p n C D o m E u lk th => down_X u (by rw [mI_3] at lk; exact lk) rf.1.2.2.2.2 (by have e1 := rf.1.2.1; have n := MI_N hm; omega) th h1))) (fun dd L' I' G1 R1 V1 rf hp ly m vr l => cwv_mono (by omega) (down_C ly m h1) (fun r V2 q => by
  obtain ⟨v, q1, q2, q3⟩ := q
  rw [q1, q3, rdn_e l]
  exact ⟨rfl, jm (mQ_q m q2) l rf hp⟩))
theorem rfD_r {V V' : gV} {dd : Int → gD} (h : dEq (dd 3) (V 57 4) (V 57 5) (fun i => V 61 i)) (h4 : V' 57 4 = V 57 4) (h5 : V' 57 5 = V 57 5) (h61 : ∀ i, V' 61 i = V 61 i) (h8 : ∀ a i, 85 ≤ a → a ≤ 88 → V' a i = V a i) (h2 : ∀ k, 0 ≤ k → k < 3 → V 85 k = 1 → dEq (dd k) (V 86 k) (V 87 k) (fun i => V 88 (960 * k + i))) (a1 : rA (dd 33) (dd 3) (fun a => V' 78 a) (fun i => V' 79 i)) (a2 : ∀ k, 0 ≤ k → k < 3 → V' 85 k = 1 → rA (dd (30 + k)) (dd k) (fun a => V' 89 (8 * k + a)) (fun i => V' 90 (2400 * k + i))) (a3 : rwO V') : rfD V' dd := by
  have e61 : (fun i => V' 61 i) = fun i => V 61 i := funext h61
  refine ⟨by rw [h4, h5, e61]; exact h, fun k k0 k1 q => ?_, a1, a2, a3⟩
  rw [h8 _ _ (by omega) (by omega)] at q
  have e88 : (fun i => V' 88 (960 * k + i)) = fun i => V 88 (960 * k + i) := funext (fun i => h8 _ _ (by omega) (by omega))
  rw [h8 86 k (by omega) (by omega), h8 87 k (by omega) (by omega), e88]
  exact h2 k k0 k1 q
theorem j_row (h : JS G R V k) (hk : k < 512) {x1 : Int} (h1 : i64 x1) : jR (qE (rwA (V 57 13) (V 57 35) x1)) (qE (rwA (V 57 13) (V 57 35) x1)) k 130 232 [(2, x1)] G R V := by
  refine jp h hk (P := fun dd L' I' => MI V 57 ∧ L' = mL V ∧ I' = rwI (mI V dd) x1 ∧ dd 3 0 3 = V 57 13) (fun dd c hm rf => ?_) (fun dd L' I' G1 R1 V1 rf hp ly m vr l => ?_)
  · obtain ⟨CC, _, _, _⟩ := gp_eq hm rf.1
    have rs := hm.2.2.1
    have q := row_K c (by rw [mI_3, CC, mI_23, rwB_0]; exact rs.2) h1
    rw [mI_3, CC, mI_23, rwB_0] at q
    exact cw_mono (Nat.le_refl _) q (fun r G' R' V' q => ⟨q.1, _, _, CI_N q.2 (by omega), hm, rfl, rfl, CC⟩)
  · obtain ⟨hm, hp1, hp2, CC⟩ := hp
    have n := MI_N hm
    have rs := hm.2.2.1
    have e13 : V1 57 13 = V 57 13 := l _ _ (by omega) (by omega)
    have e35 : V1 57 35 = V 57 35 := l _ _ (by omega) (by omega)
    refine cwv_mono (by omega) (mrow_C ly m h1) (fun r V' q => ?_)
    obtain ⟨v, q1, q2, ⟨p1, p2, p3, p4⟩, ⟨k1, k2, k3, k4⟩, rr⟩ := q
    rw [e13, e35] at q2 rr
    rw [q1, q2]
    have e85 : ∀ i, V' 85 i = V 85 i := fun i => (p4 i).trans (l _ _ (by omega) (by omega))
    have ac : ∀ a i, (a = 78 ∨ a = 79 ∨ (89 ≤ a ∧ a ≤ 92)) → V' a i = V a i := fun a i y => by
      rw [rr a i (by omega), if_neg (by omega), if_neg (by omega)]
      exact l _ _ (by omega) (by omega)
    refine ⟨rfl, p1, p2, ?_, dd, ?_, rfD_r rf.1 (k1.trans (l _ _ (by omega) (by omega))) (k2.trans (l _ _ (by omega) (by omega))) (fun i => (k3 i).trans (l _ _ (by omega) (by omega))) (fun a i a0 a1 => ?_) rf.2.1 (rA_c (fun a _ _ => ac 78 a (by omega)) (fun i _ _ => ac 79 i (by omega)) rf.2.2.1) (fun k' k0' k1' z => ?_) ?_⟩
    · rw [hp1]
      refine mL_e (fun a i a0 a1 => (p3 a i (by omega) (by omega)).trans (l a i (by omega) (by omega))) ?_
      rw [rr 57 37 (by omega), if_neg (by omega), if_neg (by omega)]
      exact l _ _ (by omega) (by omega)
    · rw [hp2]
      refine mI_x (fun j j1 => ?_) (fun j j0 j1 => ?_) ?_ (fun j j0 j1 => ?_)
      · unfold rwI
        rw [if_neg (by omega), mI_k j1]
      · unfold rwI
        rw [if_neg (by omega), mI_j ⟨j0, j1⟩, e85]
      · unfold rwI
        rw [mI_3, CC, mI_23, rwB_0]
        have c35 := rr 57 35 (by omega)
        by_cases A : 0 ≤ rwA (V 57 13) (V 57 35) x1
        · have lt : V 57 35 < V 57 13 := by
            apply Classical.byContradiction
            intro y
            unfold rwA at A
            by_cases y2 : ¬ (-1000000000000 ≤ x1 ∧ x1 ≤ 1000000000000)
            · rw [if_pos y2] at A; omega
            · rw [if_neg y2, if_pos (by omega)] at A; omega
          rw [if_pos ⟨A, rfl⟩]
          rw [if_pos ⟨A, rfl, rfl⟩] at c35
          funext a i
          unfold rwB
          by_cases qa : a = 0
          · rw [if_pos qa, if_pos qa, c35]
          · rw [if_neg qa, if_neg qa, if_neg qa]
            by_cases q1 : a = 1
            · rw [if_pos q1, if_pos q1]
              by_cases q : 0 ≤ i ∧ i < 300
              · rw [if_pos q, if_pos q, rr 84 i (by omega), if_neg (by omega)]
                by_cases y : i = V 57 35
                · rw [if_pos ⟨A, rfl, y⟩, if_pos ⟨q1, y⟩]
                · rw [if_neg (fun z => y z.2.2), if_neg (fun z => y z.2)]
                  exact l _ _ (by omega) (by omega)
              · rw [if_neg q, if_neg q, if_neg (by omega)]
            · rw [if_neg q1, if_neg q1, if_neg (fun z => q1 z.1)]
        · rw [if_neg (fun z => A z.1)]
          refine rwB_e ?_ (fun i => ?_)
          · rw [c35, if_neg (fun z => A z.1), if_neg (fun z => A z.1)]
            exact e35
          · rw [rr 84 i (by omega), if_neg (fun z => A z.1), if_neg (fun z => A z.1)]
            exact l _ _ (by omega) (by omega)
      · unfold rwI
        rw [if_neg (fun z => j1 z.2), mI_20 j0 j1]
        refine rwK_e ?_ (fun i _ _ => ?_)
        · rw [rr 91 _ (by omega), if_neg (by omega), if_neg (by omega)]
          exact l _ _ (by omega) (by omega)
        · rw [rr 92 _ (by omega), if_neg (by omega), if_neg (by omega)]
          exact l _ _ (by omega) (by omega)
    · by_cases q : a = 85
      · rw [q]; exact e85 i
      · exact (k4 a i (by omega) (by omega)).trans (l _ _ (by omega) (by omega))
    · rw [e85] at z
      exact rA_c (fun a _ _ => ac 89 _ (by omega)) (fun i _ _ => ac 90 _ (by omega)) (rf.2.2.2.1 k' k0' k1' z)
    · refine ⟨fun i i0 i1 => ?_, fun k' k0' k1' z => ?_⟩
      · rw [rr 84 i (by omega), if_neg (by omega)]
        rw [rr 57 35 (by omega)] at i1
        by_cases A : 0 ≤ rwA (V 57 13) (V 57 35) x1
        · rw [if_pos ⟨A, rfl, rfl⟩] at i1
          by_cases y : i = V 57 35
          · rw [if_pos ⟨A, rfl, y⟩]
            apply Classical.byContradiction
            intro y2
            unfold rwA at A
            rw [if_pos y2] at A
            omega
          · rw [if_neg (fun q => y q.2.2), l 84 i (by omega) (by omega)]
            exact rf.2.2.2.2.1 i i0 (by omega)
        · rw [if_neg (fun q => A q.1), if_neg (fun q => A q.1), e35] at i1
          rw [if_neg (fun q => A q.1), l 84 i (by omega) (by omega)]
          exact rf.2.2.2.2.1 i i0 i1
      · rw [e85] at z
        rw [ac 91 _ (by omega)]
        exact ⟨(rf.2.2.2.2.2 k' k0' k1' z).1, fun i i0 i1 => by rw [ac 92 _ (by omega)]; exact (rf.2.2.2.2.2 k' k0' k1' z).2 i i0 i1⟩
abbrev ckW (V : gV) (v f : Int) : Prop := ckP (V 57 13) (mtb V 57) (fun i => V 84 i) v f
noncomputable def ckV (V : gV) : Int := if V 57 35 = V 57 13 then the (fun v => ∃ f, ckW V v f) else -1
theorem tb_m {V : gV} {dd : Int → gD} (hm : MI V 57) (rf : rfD V dd) : dd 3 0 3 = V 57 13 ∧ ∀ c d, 0 ≤ c → c < V 57 13 → 0 ≤ d → d < V 57 13 → tbD (dd 3) c d = mtb V 57 c d := by
  obtain ⟨CC, _, _, _⟩ := gp_eq hm rf.1
  refine ⟨CC, fun c d c0 c1 d0 d1 => ?_⟩
  unfold tbD
  rw [CC]
  exact tb_eq hm rf.1 ⟨c0, c1⟩ ⟨d0, d1⟩
theorem k5_m {V : gV} {dd : Int → gD} (rf : rfD V dd) : mI V dd 23 5 0 = mI V dd 3 0 3 := by
  rw [mI_23, mI_3, rwB_a (by omega)]
  exact rf.2.2.1.1.1
/-- the reference's table -/
theorem mt_tri {V : gV} (hm : MI V 57) : ∀ c d, 0 ≤ c → c < d → d < V 57 13 → mtb V 57 c d = 0 := fun c d c0 cd d1 => by
  have g := hm.2.1
  obtain ⟨⟨h1, h2, h3, h4, h5, h6, h7, h8⟩, h9, h10⟩ := g.2
  have w := h9 c d c0 (by omega) (by omega) d1
  exact w.2.2.2.trans (tb_tri (GC_N g).1 h2 h8.2.1 h8.2.2 c0 cd d1)
theorem j_check (h : JS G R V k) (hk : k < 512) {x1 : Int} (h1 : i32 x1) : jR (qE (ckV V)) (qE (ckV V)) k 131 233 [(0, x1)] G R V := by
  have cy : ∀ v f, V 57 35 = V 57 13 → ckW V v f → v = ckV V := fun v f e q => by
    unfold ckV
    rw [if_pos e]
    exact the_e (P := fun v => ∃ f, ckW V v f) (fun v w ⟨f, a⟩ ⟨f', b⟩ => (ckP_u a b).1) ⟨f, q⟩
  have cn : V 57 35 ≠ V 57 13 → (-1 : Int) = ckV V := fun e => by unfold ckV; rw [if_neg e]
  refine jp h hk (P := fun dd L' I' => MI V 57 ∧ ((V 57 35 ≠ V 57 13 ∧ L' = mL V ∧ I' = mI V dd) ∨ (V 57 35 = V 57 13 ∧ ∃ v f, ckW V v f ∧ L' = miL (mL V) f ∧ ((¬ (v = 2 ∧ (0 ≤ x1 ∧ x1 < 8)) ∧ I' = rwI0 (mI V dd)) ∨ ((v = 2 ∧ (0 ≤ x1 ∧ x1 < 8)) ∧ ∃ made, slP (V 57 13) (mtb V 57) (fun i => V 84 i) made 0 ∧ I' = kpJ (rwI0 (mI V dd)) x1 (fun i => rwB V (dd 33) 1 i) made))))) (fun dd c hm rf => ?_) (fun dd L' I' G1 R1 V1 rf hp ly m vr l => ?_)
  · obtain ⟨CC, tb⟩ := tb_m hm rf
    have n := MI_N hm
    have q := check_K c (k5_m rf) (fun c c0 c1 => by
      rw [mI_3, CC] at c1
      rw [mI_3, tb c c c0 c1 c0 c1]
      exact (MI_tb hm ⟨c0, c1⟩ ⟨c0, c1⟩).2.2 rfl) h1
    rw [mI_3, CC, mI_23, rwB_0] at q
    refine cw_mono (Nat.le_refl _) q (fun r G' R' V' q => ?_)
    obtain ⟨v, f, q1, q2⟩ := q
    rcases q2 with ⟨a1, a2, a3⟩ | ⟨a1, a2, a3⟩
    · rw [q1, a2]
      exact ⟨congrArg (fun x => some ((0 : Nat), x)) (cn a1), _, _, CI_N a3 (by omega), hm, Or.inl ⟨a1, rfl, rfl⟩⟩
    · have ck : ckW V v f := ckP_c tb (fun d d0 d1 => rwB_1 ⟨d0, by omega⟩) a2
      rw [q1, cy v f a1 ck]
      rcases a3 with ⟨b1, b2⟩ | ⟨b1, made, b2, b3, b4⟩
      · exact ⟨rfl, _, _, CI_N b2 (by omega), hm, Or.inr ⟨a1, v, f, ck, rfl, Or.inl ⟨by rw [cy v f a1 ck]; rw [cy v f a1 ck] at b1; exact b1, rfl⟩⟩⟩
      · exact ⟨rfl, _, _, CI_N b4 (by omega), hm, Or.inr ⟨a1, v, f, ck, rfl, Or.inr ⟨b1, made, sl_c (by omega) tb (fun d d0 d1 => rwB_1 ⟨d0, by omega⟩) b2, rfl⟩⟩⟩
  · obtain ⟨hm, hp⟩ := hp
    have n := MI_N hm
    have e13 : V1 57 13 = V 57 13 := l _ _ (by omega) (by omega)
    have e35 : V1 57 35 = V 57 35 := l _ _ (by omega) (by omega)
    refine cwv_mono (by omega) (mcheck_C ly m h1) (fun r V' q => ?_)
    obtain ⟨v, q1, f, q2⟩ := q
    rw [e13, e35] at q2
    rcases q2 with ⟨a1, a2, a3⟩ | ⟨a1, a2, ⟨⟨p1, p2, p3, p4⟩, ⟨k1, k2, k3, k4⟩⟩, rr, rn, ry⟩
    · rcases hp with ⟨_, b1, b2⟩ | ⟨b0, _⟩
      · rw [q1, a2]
        exact ⟨congrArg (fun x => some ((0 : Nat), x)) (cn a1), jm a3 l rf ⟨b1, b2⟩⟩
      · exact absurd b0 a1
    · rcases hp with ⟨b0, _⟩ | ⟨_, v2, f2, ck, b1, b2⟩
      · exact absurd a1 b0
      have em : mtb V1 57 = mtb V 57 := funext (fun c => funext (fun d => l _ _ (by omega) (by omega)))
      have er : (fun i => V1 (57 + 27) i) = fun i => V 84 i := funext (fun i => l _ _ (by omega) (by omega))
      rw [em, er] at a2
      rw [em, er, e13] at ry
      have uu := ckP_u a2 ck
      rw [q1, cy v f a1 a2]
      have e85 : ∀ i, V' 85 i = V 85 i := fun i => (p4 i).trans (l _ _ (by omega) (by omega))
      have e84 : ∀ i, V' 84 i = V 84 i := fun i => by
        rw [rr 84 i (by omega) (by omega) (by omega), if_neg (by omega), if_neg (by omega)]
        exact l _ _ (by omega) (by omega)
      have ac : ∀ a i, (89 ≤ a ∧ a ≤ 92) → V' a i = V a i := fun a i y => by
        rw [rr a i (by omega) (by omega) (by omega), if_neg (by omega), if_neg (by omega)]
        exact l _ _ (by omega) (by omega)
      have e350 : V' 57 35 = 0 := by rw [rr 57 35 (by omega) (by omega) (by omega), if_pos (by omega)]
      have eL : mL V' = L' := by
        rw [b1, ← uu.2]
        have e37 : V' 57 37 = f := by rw [rr 57 37 (by omega) (by omega) (by omega), if_neg (by omega), if_pos (by omega)]
        have e5 : ∀ a i, 58 ≤ a → a ≤ 60 → V' a i = V a i := fun a i a0 a1 => (p3 a i (by omega) (by omega)).trans (l a i (by omega) (by omega))
        funext j
        unfold miL mL
        rw [e5 59 _ (by omega) (by omega), e5 58 _ (by omega) (by omega), e5 60 _ (by omega) (by omega), e37]
        by_cases j0 : j = 200
        · rw [if_neg (by omega), if_neg (by omega), if_neg (by omega), if_pos j0, if_pos j0]
        · rw [if_neg j0, if_neg j0, if_neg j0]
      have e8 : ∀ a i, 85 ≤ a → a ≤ 88 → V' a i = V a i := fun a i a0 a1 => by
        by_cases q : a = 85
        · rw [q]; exact e85 i
        · exact (k4 a i (by omega) (by omega)).trans (l _ _ (by omega) (by omega))
      have ak : ∀ k, 0 ≤ k → k < 3 → V' 85 k = 1 → rA (dd (30 + k)) (dd k) (fun a => V' 89 (8 * k + a)) (fun i => V' 90 (2400 * k + i)) := fun k' k0 k1' z => by
        rw [e85] at z
        exact rA_c (fun a _ _ => ac 89 _ (by omega)) (fun i _ _ => ac 90 _ (by omega)) (rf.2.2.2.1 k' k0 k1' z)
      have ro : rwO V' := ⟨fun i i0 i1 => by rw [e350] at i1; omega, fun k' k0 k1' z => by
        rw [e85] at z
        rw [ac 91 _ (by omega)]
        exact ⟨(rf.2.2.2.2.2 k' k0 k1' z).1, fun i i0 i1 => by rw [ac 92 _ (by omega)]; exact (rf.2.2.2.2.2 k' k0 k1' z).2 i i0 i1⟩⟩
      have eK : ∀ (f : gD) j, rwK V' f j = rwK V f j := fun f j => rwK_e (ac 91 _ (by omega)) (fun i _ _ => ac 92 _ (by omega))
      refine ⟨rfl, p1, p2, eL, ?_⟩
      rcases b2 with ⟨c1, c2⟩ | ⟨c1, made, c2, c3⟩
      · have nv : ¬ (v = 2 ∧ (0 ≤ x1 ∧ x1 < 8)) := by rw [uu.1]; exact c1
        have o := rn nv
        refine ⟨dd, ?_, rfD_r rf.1 (k1.trans (l _ _ (by omega) (by omega))) (k2.trans (l _ _ (by omega) (by omega))) (fun i => (k3 i).trans (l _ _ (by omega) (by omega))) e8 rf.2.1 (rA_c (fun a _ _ => (o 78 a (by omega)).trans (l _ _ (by omega) (by omega))) (fun i _ _ => (o 79 i (by omega)).trans (l _ _ (by omega) (by omega))) rf.2.2.1) ak ro⟩
        rw [c2]
        refine mI_x (fun j j1 => ?_) (fun j j0 j1 => ?_) ?_ (fun j j0 j1 => ?_)
        · unfold rwI0
          rw [if_neg (by omega), mI_k j1]
        · unfold rwI0
          rw [if_neg (by omega), mI_j ⟨j0, j1⟩, e85]
        · unfold rwI0
          rw [if_pos rfl, mI_23]
          funext a i
          unfold rw0 rwB
          by_cases q : a = 0
          · rw [if_pos q, if_pos q, e350]
          · rw [if_neg q, if_neg q, if_neg q, e84]
        · unfold rwI0
          rw [if_neg j1, mI_20 j0 j1]
          exact eK _ _
      · have yv : v = 2 ∧ (0 ≤ x1 ∧ x1 < 8) := by rw [uu.1]; exact c1
        obtain ⟨made', s1, s2, s3, s4⟩ := ry yv
        obtain ⟨CC, tb⟩ := tb_m hm rf
        have eM := sl_u (by omega) c2 s1
        have ex := sl_ex (K := V 57 13) (tb := mtb V 57) (m := fun i => V 84 i) (made := made') (by omega) (mt_tri hm) (fun c d c0 c1 d0 d1 => ⟨(MI_tb hm ⟨c0, c1⟩ ⟨d0, d1⟩).1, (MI_tb hm ⟨c0, c1⟩ ⟨d0, d1⟩).2.1⟩) (fun d d0 d1 => (MI_tb hm ⟨d0, d1⟩ ⟨d0, d1⟩).2.2 rfl) (fun d d0 d1 => rf.2.2.2.2.1 d d0 (by omega)) s1 s2
        have ra : rA (kp (dd 33) x1 (fun i => rwB V (dd 33) 1 i) made) (dd 3) (fun a => V' 78 a) (fun i => V' 79 i) := by
          refine rA_put (p := made) c1.2 rf.2.2.1 (fun c c0 c1 => ?_) (fun c c0 c1 => ?_) ?_ (fun i => ?_) (fun i => ?_)
          · rw [CC] at c1
            rw [eM c c0 c1]; exact s2 c c0 c1
          · rw [CC] at c1 ⊢
            (try dsimp only)
            rw [rwB_1 ⟨c0, by omega⟩]
            refine (ex c c0 c1).2.trans (sm_congr (fun y y0 y1 => ?_))
            (try dsimp only)
            rw [tb y c y0 (by omega) c0 c1, eM y y0 (by omega)]
          · (try dsimp only)
            rw [rwB_1 ⟨by omega, by omega⟩]
            have := (rf.2.2.2.2.1 0 (by omega) (by omega)).2
            omega
          · have q := s3 i
            rw [l 78 i (by omega) (by omega)] at q
            exact q
          · have q := s4 i
            rw [l 79 i (by omega) (by omega)] at q
            rw [CC]
            refine Eq.trans q ?_
            by_cases y : 300 * x1 ≤ i ∧ i < 300 * x1 + V 57 13
            · rw [if_pos y, if_pos y]; exact (eM _ (by omega) (by omega)).symm
            · rw [if_neg y, if_neg y]
        refine ⟨fun j => if j = 33 then kp (dd 33) x1 (fun i => rwB V (dd 33) 1 i) made else dd j, ?_, ?_⟩
        · rw [c3]
          refine mI_x (fun j j1 => ?_) (fun j j0 j1 => ?_) ?_ (fun j j0 j1 => ?_)
          · unfold kpJ rwI0
            rw [if_neg (by omega), if_neg (by omega), if_neg (by omega), mI_k j1]
          · unfold kpJ rwI0
            rw [if_neg (by omega), if_neg (by omega), mI_j ⟨j0, j1⟩, e85]
          · unfold kpJ rwI0
            rw [if_pos rfl, if_pos rfl, if_pos rfl, mI_23]
            funext a i
            by_cases a2 : 2 ≤ a
            · rw [rwB_a a2]
              refine kp_g ?_
              unfold rw0
              rw [if_neg (by omega), rwB_a a2]
            · rw [kp_o (by omega) (by omega) (by omega)]
              unfold rw0 rwB
              by_cases q : a = 0
              · rw [if_pos q, if_pos q, e350]
              · rw [if_neg q, if_neg q, if_neg q, e84]
                by_cases q1 : a = 1
                · rw [if_pos q1, if_pos q1]
                · rw [if_neg q1, if_neg q1]
                  unfold kp
                  rw [if_neg (by omega), if_neg (by omega), if_neg (by omega)]
          · unfold kpJ rwI0
            rw [if_neg j1, if_neg j1, if_neg (by omega), mI_20 j0 j1]
            exact eK _ _
        · refine rfD_r (dd := fun j => if j = 33 then kp (dd 33) x1 (fun i => rwB V (dd 33) 1 i) made else dd j) (V := V) (by (try dsimp only); rw [if_neg (by omega)]; exact rf.1) (k1.trans (l _ _ (by omega) (by omega))) (k2.trans (l _ _ (by omega) (by omega))) (fun i => (k3 i).trans (l _ _ (by omega) (by omega))) e8 (fun k' k0 k1' z => by (try dsimp only); rw [if_neg (by omega)]; exact rf.2.1 k' k0 k1' z) (by (try dsimp only); rw [if_pos rfl, if_neg (by omega)]; exact ra) (fun k' k0 k1' z => by (try dsimp only); rw [if_neg (by omega), if_neg (by omega)]; exact ak k' k0 k1' z) ro
theorem mL_200 {V : gV} : mL V 200 = V 57 37 := by unfold mL; rw [if_neg (by omega), if_neg (by omega), if_neg (by omega), if_pos rfl]
theorem j_misfit (h : JS G R V k) (hk : k < 512) : jR (qE (V 57 37)) (qE (V 57 37)) k 132 234 [] G R V := jp h hk (P := sP V) (fun dd c hm rf => cw_mono (Nat.le_refl _) (misfit_K c) (fun r G' R' V' q => by rw [q.1, mL_200]; exact ⟨rfl, _, _, CI_N q.2 (by omega), rfl, rfl⟩)) (fun dd L' I' G1 R1 V1 rf hp ly m vr l => cwv_mono (by omega) (misfit_C ly) (fun r V2 q => by rw [q.1, q.2, l 57 37 (by omega) (by omega)]; exact ⟨rfl, jm (mQ_r m) l rf hp⟩))
theorem j_image (h : JS G R V k) (hk : k < 512) {x1 : Int} (h1 : i32 x1) : jR (qE (imA x1)) (qE (imA x1)) k 135 239 [(0, x1)] G R V := by
  refine jp h hk (P := fun dd L' I' => MI V 57 ∧ L' = mL V ∧ I' = imL (mI V dd) x1) (fun dd c hm rf => ?_) (fun dd L' I' G1 R1 V1 rf hp ly m vr l => ?_)
  · refine cw_mono (by omega) (image_K c (k5_m rf) h1) (fun r G' R' V' q => ?_)
    obtain ⟨v, q1, q2, q3⟩ := q
    rw [q1, q2]
    exact ⟨rfl, _, _, CI_N q3 (by omega), hm, rfl, rfl⟩
  · refine cwv_mono (by omega) (mimage_c ly m h1) (fun r V' q => ?_)
    obtain ⟨v, q1, q2, q3, q4, q5, q6, ⟨⟨k1, k2, k3⟩, ko, kn⟩, ⟨⟨w35, w37, w27⟩, wo, wn⟩, ⟨y21, y22⟩, yo, yn⟩ := q
    obtain ⟨hm, hp1, hp2⟩ := hp
    rw [q1, q2]
    have e4 : V' 57 4 = V 57 4 := k1.trans (l _ _ (by omega) (by omega))
    have e5 : V' 57 5 = V 57 5 := k2.trans (l _ _ (by omega) (by omega))
    have e61 : ∀ i, V' 61 i = V 61 i := fun i => (k3 i).trans (l _ _ (by omega) (by omega))
    have e85 : ∀ i, V' 85 i = if (0 ≤ x1 ∧ x1 ≤ 2) ∧ i = x1 then 1 else V 85 i := fun i => by rw [← l 85 i (by omega) (by omega)]; exact q6 i
    have l3 : ∀ a i, 86 ≤ a → a ≤ 88 → V1 a i = V a i := fun a i a0 a1 => l a i (by omega) (by omega)
    refine ⟨rfl, q3, q4, by rw [hp1]; exact mL_e (fun a i a0 a1 => (q5 a i (by omega) (by omega)).trans (l a i (by omega) (by omega))) (w37.trans (l _ _ (by omega) (by omega))), fun j => if (0 ≤ x1 ∧ x1 ≤ 2) ∧ j = x1 then dd 3 else if (0 ≤ x1 ∧ x1 ≤ 2) ∧ j = 30 + x1 then dd 33 else dd j, ?_, ?_, ?_, ?_, ?_, ?_⟩
    · rw [hp2]
      have eB : ∀ f, rwB V' f = rwB V f := fun f => rwB_e (w35.trans (l _ _ (by omega) (by omega))) (fun i => (w27 i).trans (l _ _ (by omega) (by omega)))
      have eK : ∀ j, ¬ ((0 ≤ x1 ∧ x1 ≤ 2) ∧ j = x1) → ∀ f, rwK V' f j = rwK V f j := fun j nj f => rwK_e ((wo j nj).1.trans (l _ _ (by omega) (by omega))) (fun i i0 i1 => ((wo j nj).2 i i0 i1).trans (l _ _ (by omega) (by omega)))
      refine mI_x (fun j j1 => ?_) (fun j j0 j1 => ?_) ?_ (fun j j0 j1 => ?_)
      · unfold imL
        (try dsimp only)
        by_cases z : 0 ≤ x1 ∧ x1 ≤ 2
        · have nn : ¬ ¬ (0 ≤ x1 ∧ x1 ≤ 2) := fun q => q z
          by_cases y : j = x1
          · rw [if_pos (show (0 ≤ x1 ∧ x1 ≤ 2) ∧ j = x1 from ⟨z, y⟩), if_neg nn, if_pos y, mI_3]
          · rw [if_neg (show ¬ ((0 ≤ x1 ∧ x1 ≤ 2) ∧ j = x1) from fun q => y q.2), if_neg (show ¬ ((0 ≤ x1 ∧ x1 ≤ 2) ∧ j = 30 + x1) by omega), if_neg nn, if_neg y, if_neg (show ¬ j = 10 + x1 by omega), if_neg (show ¬ j = 20 + x1 by omega), mI_k j1]
        · rw [if_neg (show ¬ ((0 ≤ x1 ∧ x1 ≤ 2) ∧ j = x1) from fun q => z q.1), if_neg (show ¬ ((0 ≤ x1 ∧ x1 ≤ 2) ∧ j = 30 + x1) from fun q => z q.1), if_pos z, mI_k j1]
      · unfold imL
        rw [e85]
        by_cases z : 0 ≤ x1 ∧ x1 ≤ 2
        · have nn : ¬ ¬ (0 ≤ x1 ∧ x1 ≤ 2) := fun q => q z
          by_cases y : j = 10 + x1
          · rw [if_pos (show (0 ≤ x1 ∧ x1 ≤ 2) ∧ j - 10 = x1 from ⟨z, by omega⟩), if_neg nn, if_neg (show ¬ j = x1 by omega), if_pos y]
          · rw [if_neg (show ¬ ((0 ≤ x1 ∧ x1 ≤ 2) ∧ j - 10 = x1) by omega), if_neg nn, if_neg (show ¬ j = x1 by omega), if_neg y, if_neg (show ¬ j = 20 + x1 by omega), mI_j ⟨j0, j1⟩]
        · rw [if_neg (show ¬ ((0 ≤ x1 ∧ x1 ≤ 2) ∧ j - 10 = x1) from fun q => z q.1), if_pos z, mI_j ⟨j0, j1⟩]
      · unfold imL
        (try dsimp only)
        rw [if_neg (show ¬ ((0 ≤ x1 ∧ x1 ≤ 2) ∧ (33 : Int) = x1) by omega), if_neg (show ¬ ((0 ≤ x1 ∧ x1 ≤ 2) ∧ (33 : Int) = 30 + x1) by omega), eB]
        by_cases z : 0 ≤ x1 ∧ x1 ≤ 2
        · rw [if_neg (fun q => q z), if_neg (by omega), if_neg (by omega), if_neg (by omega), mI_23]
        · rw [if_pos z, mI_23]
      · unfold imL
        (try dsimp only)
        rw [if_neg (show ¬ ((0 ≤ x1 ∧ x1 ≤ 2) ∧ (10 + j : Int) = x1) by omega)]
        by_cases z : 0 ≤ x1 ∧ x1 ≤ 2
        · rw [if_neg (show ¬ ¬ (0 ≤ x1 ∧ x1 ≤ 2) from fun q => q z), if_neg (show ¬ j = x1 by omega), if_neg (show ¬ j = 10 + x1 by omega)]
          by_cases y : j = 20 + x1
          · obtain ⟨w1, w2⟩ := wn z
            rw [if_pos (show (0 ≤ x1 ∧ x1 ≤ 2) ∧ (10 + j : Int) = 30 + x1 from ⟨z, by omega⟩), if_pos y, mI_23, show j - 20 = x1 by omega]
            have c1 : V' 91 x1 = V 57 35 := w1.trans (l _ _ (by omega) (by omega))
            have c2 : ∀ i, 0 ≤ i → i < 300 → V' 92 (300 * x1 + i) = V 84 i := fun i i0 i1 => (w2 i i0 i1).trans (l _ _ (by omega) (by omega))
            funext a i
            unfold rwK rwB
            rw [c1]
            by_cases q : 0 ≤ i ∧ i < 300
            · rw [if_pos q, if_pos q, c2 i q.1 q.2]
            · rw [if_neg q, if_neg q]
          · rw [if_neg (show ¬ ((0 ≤ x1 ∧ x1 ≤ 2) ∧ (10 + j : Int) = 30 + x1) by omega), if_neg y, mI_20 j0 j1]
            exact eK _ (by omega) _
        · rw [if_neg (show ¬ ((0 ≤ x1 ∧ x1 ≤ 2) ∧ (10 + j : Int) = 30 + x1) from fun q => z q.1), if_pos z, mI_20 j0 j1]
          exact eK _ (fun q => z q.1) _
    · have e61' : (fun i => V' 61 i) = fun i => V 61 i := funext e61
      (try dsimp only)
      rw [if_neg (by omega), if_neg (by omega), e4, e5, e61']
      exact rf.1
    · intro j j0 j1 q
      (try dsimp only)
      by_cases z : (0 ≤ x1 ∧ x1 ≤ 2) ∧ j = x1
      · rw [if_pos z, z.2]
        obtain ⟨a1, a2, a3⟩ := kn z.1
        have b1 : V' 86 x1 = V 57 4 := a1.trans (l _ _ (by omega) (by omega))
        have b2 : V' 87 x1 = V 57 5 := a2.trans (l _ _ (by omega) (by omega))
        rw [b1, b2]
        have g := hm.2.1.1.1
        refine dEq_c rf.1 (fun y p y0 y1 p0 p1 => ?_)
        have n8 := g.2.1
        have N8 := g.2.2.2.1
        exact (a3 _ (by omega) (by omega)).trans (l _ _ (by omega) (by omega))
      · rw [e85, if_neg z] at q
        obtain ⟨a1, a2, a3⟩ := ko j j0 j1 z
        have b1 : V' 86 j = V 86 j := a1.trans (l3 _ _ (by omega) (by omega))
        have b2 : V' 87 j = V 87 j := a2.trans (l3 _ _ (by omega) (by omega))
        rw [if_neg z, if_neg (show ¬ ((0 ≤ x1 ∧ x1 ≤ 2) ∧ j = 30 + x1) by omega), b1, b2]
        have g := (hm.2.2.2 j j0 j1 q).1
        refine dEq_c (rf.2.1 j j0 j1 q) (fun y p y0 y1 p0 p1 => ?_)
        have n8 : V 86 j ≤ 8 := g.2.1
        have N8 : V 87 j ≤ 120 := g.2.2.2.1
        exact (a3 _ (by omega) (by omega)).trans (l3 _ _ (by omega) (by omega))
    · (try dsimp only)
      rw [if_neg (by omega), if_neg (by omega), if_neg (by omega), if_neg (by omega)]
      exact rA_c (fun a _ _ => (y21 a).trans (l _ _ (by omega) (by omega))) (fun i _ _ => (y22 i).trans (l _ _ (by omega) (by omega))) rf.2.2.1
    · intro j j0 j1 q
      (try dsimp only)
      by_cases z : (0 ≤ x1 ∧ x1 ≤ 2) ∧ j = x1
      · obtain ⟨a1, a2⟩ := yn z.1
        rw [if_neg (show ¬ ((0 ≤ x1 ∧ x1 ≤ 2) ∧ 30 + j = x1) by omega), if_pos (show (0 ≤ x1 ∧ x1 ≤ 2) ∧ 30 + j = 30 + x1 from ⟨z.1, by omega⟩), if_pos z, z.2]
        exact rA_c (fun a a0 a1' => (a1 a a0 a1').trans (l _ _ (by omega) (by omega))) (fun i i0 i1 => (a2 i i0 i1).trans (l _ _ (by omega) (by omega))) rf.2.2.1
      · rw [e85, if_neg z] at q
        obtain ⟨a1, a2⟩ := yo j z
        rw [if_neg (show ¬ ((0 ≤ x1 ∧ x1 ≤ 2) ∧ 30 + j = x1) by omega), if_neg (show ¬ ((0 ≤ x1 ∧ x1 ≤ 2) ∧ 30 + j = 30 + x1) by omega), if_neg z, if_neg (show ¬ ((0 ≤ x1 ∧ x1 ≤ 2) ∧ j = 30 + x1) by omega)]
        exact rA_c (fun a a0 a1' => (a1 a a0 a1').trans (l _ _ (by omega) (by omega))) (fun i i0 i1 => (a2 i i0 i1).trans (l _ _ (by omega) (by omega))) (rf.2.2.2.1 j j0 j1 q)
    · refine ⟨fun i i0 i1 => ?_, fun j j0 j1 q => ?_⟩
      · have c1 : V' 57 35 = V 57 35 := w35.trans (l _ _ (by omega) (by omega))
        have c2 : V' 84 i = V 84 i := (w27 i).trans (l _ _ (by omega) (by omega))
        rw [c1] at i1
        rw [c2]; exact rf.2.2.2.2.1 i i0 i1
      · by_cases z : (0 ≤ x1 ∧ x1 ≤ 2) ∧ j = x1
        · obtain ⟨w1, w2⟩ := wn z.1
          have c1 : V' 91 x1 = V 57 35 := w1.trans (l _ _ (by omega) (by omega))
          have n := MI_N hm
          rw [z.2, c1]
          refine ⟨by omega, fun i i0 i1 => ?_⟩
          have c2 : V' 92 (300 * x1 + i) = V 84 i := (w2 i i0 (by omega)).trans (l _ _ (by omega) (by omega))
          rw [c2]; exact rf.2.2.2.2.1 i i0 i1
        · rw [e85, if_neg z] at q
          obtain ⟨w1, w2⟩ := wo j z
          have c1 : V' 91 j = V 91 j := w1.trans (l _ _ (by omega) (by omega))
          have ro := rf.2.2.2.2.2 j j0 j1 q
          rw [c1]
          refine ⟨ro.1, fun i i0 i1 => ?_⟩
          have c2 : V' 92 (300 * j + i) = V 92 (300 * j + i) := (w2 i i0 (by omega)).trans (l _ _ (by omega) (by omega))
          rw [c2]; exact ro.2 i i0 i1
theorem bkL_e {dd : Int → gD} {x : Int} {V1 : gV} (l : ∀ a i, 57 ≤ a → a ≤ 92 → V1 a i = V a i) : bkA V1 57 x = bkL (mI V dd) x := by
  unfold bkA bkL
  by_cases z : ¬ (0 ≤ x ∧ x ≤ 2)
  · rw [if_pos z, if_pos z]
  · rw [if_neg z, if_neg z, mI_10 (by omega), l _ _ (by omega) (by omega)]
theorem bkL_d {dd dd' : Int → gD} {x : Int} : bkL (mI V dd) x = bkL (mI V dd') x := by
  unfold bkL
  by_cases z : ¬ (0 ≤ x ∧ x ≤ 2)
  · rw [if_pos z, if_pos z]
  · rw [if_neg z, if_neg z, mI_10 (by omega), mI_10 (by omega)]
theorem j_back (h : JS G R V k) (hk : k < 512) {x1 : Int} (h1 : i32 x1) : jR (qE (bkA V 57 x1)) (qE (bkA V 57 x1)) k 136 240 [(0, x1)] G R V := by
  refine jp h hk (P := fun dd L' I' => MI V 57 ∧ L' = mL V ∧ I' = bkI (mI V dd) x1) (fun dd c hm rf => ?_) (fun dd L' I' G1 R1 V1 rf hp ly m vr l => ?_)
  · refine cw_mono (by omega) (back_K c (fun y e1 => by
      rw [mI_10 (by omega)] at e1
      rw [mI_20 (by omega) (by omega), mI_k (by omega), rwK_a (by omega), show 10 + (20 + x1) = 30 + x1 by omega]
      exact (rf.2.2.2.1 x1 y.1 (by omega) e1).1.1) h1) (fun r G' R' V' q => ?_)
    obtain ⟨v, q1, q2, q3⟩ := q
    rw [q1, q2, ← bkL_e (V1 := V) (fun _ _ _ _ => rfl)]
    exact ⟨rfl, _, _, CI_N q3 (by omega), hm, rfl, rfl⟩
  · refine cwv_mono (by omega) (mback_c ly m h1) (fun r V' q => ?_)
    obtain ⟨v, q1, ⟨q2, ⟨yn, yo⟩, k8, kn, ko, wn, wo⟩, p1, p2, p3, p4⟩ := q
    obtain ⟨hm, hp1, hp2⟩ := hp
    have eA : bkA V1 57 x1 = bkA V 57 x1 := (bkL_e (dd := dd) l).trans (bkL_e (V1 := V) (fun _ _ _ _ => rfl)).symm
    have eB : bkL (mI V dd) x1 = bkA V 57 x1 := (bkL_e (V1 := V) (fun _ _ _ _ => rfl)).symm
    rw [q1, q2, eA]
    rw [eA] at kn ko wn wo yn yo
    have e85 : ∀ i, V' 85 i = V 85 i := fun i => (p4 i).trans (l _ _ (by omega) (by omega))
    have e8 : ∀ a i, 85 ≤ a → a ≤ 88 → V' a i = V a i := fun a i a0 a1 => by
      by_cases q : a = 85
      · rw [q]; exact e85 i
      · exact (k8 a i (by omega) (by omega)).trans (l _ _ (by omega) (by omega))
    have eL : mL V' = mL V := mL_e (fun a i a0 a1 => (p3 a i (by omega) (by omega)).trans (l a i (by omega) (by omega))) ((k8 57 37 (by omega) (by omega)).trans (l _ _ (by omega) (by omega)))
    have eK : ∀ (f : gD) j, rwK V' f j = rwK V f j := fun f j => rwK_e ((k8 91 j (by omega) (by omega)).trans (l _ _ (by omega) (by omega))) (fun i _ _ => (k8 92 _ (by omega) (by omega)).trans (l _ _ (by omega) (by omega)))
    by_cases z : bkA V 57 x1 = 0
    · have xx : 0 ≤ x1 ∧ x1 ≤ 2 := by
        apply Classical.byContradiction
        intro y
        unfold bkA at z
        rw [if_pos y] at z
        omega
      obtain ⟨a0, a1, a2, a3⟩ := ko z
      have l3 : ∀ a i, 86 ≤ a → a ≤ 88 → V1 a i = V a i := fun a i a0 a1 => l a i (by omega) (by omega)
      have b1 : V' 57 4 = V 86 x1 := a1.trans (l3 _ _ (by omega) (by omega))
      have b2 : V' 57 5 = V 87 x1 := a2.trans (l3 _ _ (by omega) (by omega))
      refine ⟨rfl, p1, p2, by rw [hp1]; exact eL, fun j => if j = 3 then dd x1 else if j = 33 then dd (30 + x1) else dd j, ?_, ?_, ?_, ?_, ?_, ?_⟩
      · rw [hp2]
        obtain ⟨w1, w2⟩ := wo z
        refine mI_x (fun j j1 => ?_) (fun j j0 j1 => ?_) ?_ (fun j j0 j1 => ?_)
        · unfold bkI
          rw [eB]
          by_cases y : j = 3
          · rw [if_pos y, if_pos ⟨z, y⟩, mI_k (by omega)]
          · rw [if_neg y, if_neg (show ¬ j = 33 by omega), if_neg (fun q => y q.2), if_neg (by omega), mI_k j1]
        · unfold bkI
          rw [e85, if_neg (by omega), if_neg (by omega), mI_j ⟨j0, j1⟩]
        · unfold bkI
          rw [if_neg (show ¬ (33 : Int) = 3 by omega), if_pos (show (33 : Int) = 33 from rfl), eB, if_neg (by omega), if_pos ⟨z, rfl⟩, mI_20 (by omega) (by omega), show 20 + x1 - 20 = x1 by omega, show 10 + (20 + x1) = 30 + x1 by omega]
          have c1 : V' 57 35 = V 91 x1 := w1.trans (l _ _ (by omega) (by omega))
          have c2 : ∀ i, 0 ≤ i → i < 300 → V' 84 i = V 92 (300 * x1 + i) := fun i i0 i1 => (w2 i i0 i1).trans (l _ _ (by omega) (by omega))
          funext a i
          unfold rwK rwB
          rw [c1]
          by_cases q : 0 ≤ i ∧ i < 300
          · rw [if_pos q, if_pos q, c2 i q.1 q.2]
          · rw [if_neg q, if_neg q]
        · unfold bkI
          rw [if_neg (show ¬ (10 + j : Int) = 3 by omega), if_neg (show ¬ (10 + j : Int) = 33 by omega), if_neg (by omega), if_neg (by omega), mI_20 j0 j1]
          exact eK _ _
      · (try dsimp only)
        rw [if_pos rfl, b1, b2]
        have x1' : V 85 x1 = 1 := (l 85 x1 (by omega) (by omega)).symm.trans a0
        refine dEq_c (rf.2.1 x1 xx.1 (by omega) x1') (fun y p y0 y1 p0 p1 => ?_)
        have c1 : V1 (57 + 30) x1 = V 87 x1 := l3 _ _ (by omega) (by omega)
        have c2 : V1 (57 + 29) x1 = V 86 x1 := l3 _ _ (by omega) (by omega)
        exact (a3 y p y0 (by rw [c1]; exact y1) p0 (by rw [c2]; exact p1)).trans (l3 _ _ (by omega) (by omega))
      · intro j j0 j1 q
        (try dsimp only)
        rw [if_neg (show ¬ j = 3 by omega), if_neg (show ¬ j = 33 by omega)]
        rw [e85] at q
        have e88 : (fun i => V' 88 (960 * j + i)) = fun i => V 88 (960 * j + i) := funext (fun i => e8 _ _ (by omega) (by omega))
        rw [e8 86 j (by omega) (by omega), e8 87 j (by omega) (by omega), e88]
        exact rf.2.1 j j0 j1 q
      · (try dsimp only)
        rw [if_neg (show ¬ (33 : Int) = 3 by omega), if_pos (show (33 : Int) = 33 from rfl), if_pos (show (3 : Int) = 3 from rfl)]
        obtain ⟨y1, y2⟩ := yo z
        have x1' : V 85 x1 = 1 := (l 85 x1 (by omega) (by omega)).symm.trans a0
        exact rA_c (fun a a0' a1' => (y1 a a0' a1').trans (l _ _ (by omega) (by omega))) (fun i i0 i1 => (y2 i i0 i1).trans (l _ _ (by omega) (by omega))) (rf.2.2.2.1 x1 xx.1 (by omega) x1')
      · intro j j0 j1 q
        (try dsimp only)
        rw [if_neg (show ¬ 30 + j = 3 by omega), if_neg (show ¬ 30 + j = 33 by omega), if_neg (show ¬ j = 3 by omega), if_neg (show ¬ j = 33 by omega)]
        rw [e85] at q
        exact rA_c (fun a _ _ => (k8 89 _ (by omega) (by omega)).trans (l _ _ (by omega) (by omega))) (fun i _ _ => (k8 90 _ (by omega) (by omega)).trans (l _ _ (by omega) (by omega))) (rf.2.2.2.1 j j0 j1 q)
      · obtain ⟨w1, w2⟩ := wo z
        have x1' : V 85 x1 = 1 := (l 85 x1 (by omega) (by omega)).symm.trans a0
        have ro := rf.2.2.2.2.2 x1 xx.1 (by omega) x1'
        refine ⟨fun i i0 i1 => ?_, fun j j0 j1 q => ?_⟩
        · have c1 : V' 57 35 = V 91 x1 := w1.trans (l _ _ (by omega) (by omega))
          rw [c1] at i1
          have c2 : V' 84 i = V 92 (300 * x1 + i) := (w2 i i0 (by omega)).trans (l _ _ (by omega) (by omega))
          rw [c2]; exact ro.2 i i0 i1
        · rw [e85] at q
          have c1 : V' 91 j = V 91 j := (k8 91 j (by omega) (by omega)).trans (l _ _ (by omega) (by omega))
          rw [c1]
          refine ⟨(rf.2.2.2.2.2 j j0 j1 q).1, fun i i0 i1 => ?_⟩
          have c2 : V' 92 (300 * j + i) = V 92 (300 * j + i) := (k8 92 _ (by omega) (by omega)).trans (l _ _ (by omega) (by omega))
          rw [c2]; exact (rf.2.2.2.2.2 j j0 j1 q).2 i i0 i1
    · obtain ⟨a1, a2, a3⟩ := kn z
      refine ⟨rfl, p1, p2, by rw [hp1]; exact eL, dd, ?_, rfD_e (a1.trans (l _ _ (by omega) (by omega))) (a2.trans (l _ _ (by omega) (by omega))) (fun i => (a3 i).trans (l _ _ (by omega) (by omega))) e8 (fun a i q => ?_) rf⟩
      rw [hp2, mI_e e85 (fun a i q => ?_)]
      · funext j
        unfold bkI
        rw [eB, if_neg (fun q => z q.1), if_neg (fun q => z q.1)]
      · obtain ⟨w1, w2⟩ := wn z
        rcases q with q | q | q
        · rw [q.1, q.2]; exact w1.trans (l _ _ (by omega) (by omega))
        · rw [q]; exact (w2 i).trans (l _ _ (by omega) (by omega))
        · exact (k8 a i (by omega) (by omega)).trans (l _ _ (by omega) (by omega))
      · obtain ⟨w1, w2⟩ := wn z
        rcases q with q | q | q | q | q | q
        · rw [q.1, q.2]; exact w1.trans (l _ _ (by omega) (by omega))
        · exact (yn z a i (by omega)).trans (l _ _ (by omega) (by omega))
        · exact (yn z a i (by omega)).trans (l _ _ (by omega) (by omega))
        · rw [q]; exact (w2 i).trans (l _ _ (by omega) (by omega))
        · rw [q]; exact e85 i
        · exact (k8 a i (by omega) (by omega)).trans (l _ _ (by omega) (by omega))
theorem j_status (h : JS G R V k) (hk : k < 512)  : jR qI qI k 137 241 [] G R V := jp h hk (P := sP V) (fun dd c _ rf => opI_j (opI c (fun T g p n C D o m E u th => status_k u th ))) (fun dd L' I' G1 R1 V1 rf hp ly m vr l => aI_j (status_c ly m ) (by omega) l rf hp)
theorem msf_L {n s p : Int} (s0 : 0 ≤ s ∧ s < 4) (p0 : 0 ≤ p ∧ p < 8) : msf V 57 n s p = if p < n ∧ p < mL V s then mL V (100 + 8 * s + p) else p := by
  unfold msf shp
  rw [mL_s (by omega), show 100 + 8 * s + p = 100 + (8 * s + p) by omega, mL_100 (by omega)]
  by_cases y : p < n
  · rw [if_pos y]
    by_cases z : p < V 59 s
    · rw [if_pos z, if_pos ⟨y, z⟩]
    · rw [if_neg z, if_neg (fun q => z q.2)]
  · rw [if_neg y, if_neg (fun q => y q.1)]
theorem j_group (h : JS G R V k) (hk : k < 512) {x1 : Int} (h1 : i32 x1) : jR (qE (gAX (msf V 57 x1) x1)) (qE (gAX (msf V 57 x1) x1)) k 105 181 [(0, x1)] G R V := by
  refine jp h hk (P := fun dd L' I' => L' = mL V ∧ ((gAX (msf V 57 x1) x1 < 0 ∧ I' = mI V dd) ∨ (gOK (msf V 57 x1) x1 (I' 3) ∧ hsX (I' 3) ∧ gAX (msf V 57 x1) x1 = I' 3 0 1 ∧ ∀ j, j ≠ 3 → I' j = rwG (mI V dd) (I' 3 0 3) j))) (fun dd c hm rf => ?_) (fun dd L' I' G1 R1 V1 rf hp ly m vr l => ?_)
  · refine cw_mono (by omega) (group_X c h1 (sf := msf V 57 x1) (fun s p s0 s1 p0 p1 => msf_L ⟨s0, s1⟩ ⟨p0, p1⟩)) (fun r G' R' V' q => ?_)
    obtain ⟨v, q1, q2, I', q3, q4⟩ := q
    rw [gAX_e q2] at q4
    rw [q1, gAX_e q2]
    exact ⟨rfl, _, I', CI_N q3 (by omega), rfl, q4⟩
  · refine cwv_mono (by omega) (mgroup_c ly m vr h1) (fun r V' q => ?_)
    obtain ⟨v, q1, ⟨q2, ⟨k8, yn, yz⟩, kz, kg⟩, p1, p2, p3, p4⟩ := q
    obtain ⟨hp1, hp2⟩ := hp
    have e : msf V1 57 x1 = msf V 57 x1 := by
      funext s p
      unfold msf shp
      rw [l _ _ (by omega) (by omega), l _ _ (by omega) (by omega)]
    have ga := gmX_ans q2
    rw [e] at ga
    rw [gAX_e ga] at kg kz yn yz
    rw [q1, gAX_e ga]
    have e85 : ∀ i, V' 85 i = V 85 i := fun i => (p4 i).trans (l _ _ (by omega) (by omega))
    have e8 : ∀ a i, 85 ≤ a → a ≤ 88 → V' a i = V a i := fun a i a0 a1 => by
      by_cases q : a = 85
      · rw [q]; exact e85 i
      · exact (k8 a i (by omega) (by omega)).trans (l _ _ (by omega) (by omega))
    have eL : mL V' = mL V := mL_e (fun a i a0 a1 => (p3 a i (by omega) (by omega)).trans (l a i (by omega) (by omega))) ((k8 57 37 (by omega) (by omega)).trans (l _ _ (by omega) (by omega)))
    have eK : ∀ (f : gD) j, rwK V' f j = rwK V f j := fun f j => rwK_e ((k8 91 j (by omega) (by omega)).trans (l _ _ (by omega) (by omega))) (fun i _ _ => (k8 92 _ (by omega) (by omega)).trans (l _ _ (by omega) (by omega)))
    have e84 : ∀ i, V' 84 i = V 84 i := fun i => (k8 84 i (by omega) (by omega)).trans (l _ _ (by omega) (by omega))
    have im : ∀ k, 0 ≤ k → k < 3 → V' 85 k = 1 → dEq (dd k) (V' 86 k) (V' 87 k) (fun i => V' 88 (960 * k + i)) := fun j j0 j1 q => by
      rw [e85] at q
      have e88 : (fun i => V' 88 (960 * j + i)) = fun i => V 88 (960 * j + i) := funext (fun i => e8 _ _ (by omega) (by omega))
      rw [e8 86 j (by omega) (by omega), e8 87 j (by omega) (by omega), e88]
      exact rf.2.1 j j0 j1 q
    have ak : ∀ k, 0 ≤ k → k < 3 → V' 85 k = 1 → rA (dd (30 + k)) (dd k) (fun a => V' 89 (8 * k + a)) (fun i => V' 90 (2400 * k + i)) := fun j j0 j1 q => by
      rw [e85] at q
      exact rA_c (fun a _ _ => (k8 89 _ (by omega) (by omega)).trans (l _ _ (by omega) (by omega))) (fun i _ _ => (k8 90 _ (by omega) (by omega)).trans (l _ _ (by omega) (by omega))) (rf.2.2.2.1 j j0 j1 q)
    have ro : ∀ j, 0 ≤ j → j < 3 → V' 85 j = 1 → V' 91 j ≤ 300 ∧ ∀ i, 0 ≤ i → i < V' 91 j → -1000000000000 ≤ V' 92 (300 * j + i) ∧ V' 92 (300 * j + i) ≤ 1000000000000 := fun j j0 j1 q => by
      rw [e85] at q
      have c1 : V' 91 j = V 91 j := (k8 91 j (by omega) (by omega)).trans (l _ _ (by omega) (by omega))
      rw [c1]
      refine ⟨(rf.2.2.2.2.2 j j0 j1 q).1, fun i i0 i1 => ?_⟩
      have c2 : V' 92 (300 * j + i) = V 92 (300 * j + i) := (k8 92 _ (by omega) (by omega)).trans (l _ _ (by omega) (by omega))
      rw [c2]; exact (rf.2.2.2.2.2 j j0 j1 q).2 i i0 i1
    have N1 : 1 ≤ V' 57 5 := p1.2.1.1.1.2.2.1
    refine ⟨rfl, p1, p2, by rw [hp1]; exact eL, ?_⟩
    rcases hp2 with ⟨n0, hI⟩ | ⟨ok, hx, eN, oth⟩
    · rcases kg with ⟨_, a1, a2, a3⟩ | ⟨a0, _⟩
      · have rq : ∀ a i, rwQ a i → V' a i = V a i := fun a i q => by
          rcases q with q | q | q
          · rw [q.1, q.2]; exact (kz.1 n0).trans (l _ _ (by omega) (by omega))
          · rw [q]; exact e84 i
          · exact (k8 a i (by omega) (by omega)).trans (l _ _ (by omega) (by omega))
        have o78 : ∀ a i, (a = 78 ∨ a = 79) → V' a i = V a i := fun a i y => (yn n0 a i (by omega)).trans (l _ _ (by omega) (by omega))
        refine ⟨dd, by rw [hI, mI_e e85 rq], ?_, im, rA_c (fun a _ _ => o78 78 a (by omega)) (fun i _ _ => o78 79 i (by omega)) rf.2.2.1, ak, fun i i0 i1 => ?_, ro⟩
        rotate_left
        · rw [rq 57 35 (by omega)] at i1
          rw [e84]; exact rf.2.2.2.2.1 i i0 i1
        have b1 : V' 57 4 = V 57 4 := a1.trans (l _ _ (by omega) (by omega))
        have b2 : V' 57 5 = V 57 5 := a2.trans (l _ _ (by omega) (by omega))
        have c1 : V1 57 4 = V 57 4 := l _ _ (by omega) (by omega)
        have c2 : V1 57 5 = V 57 5 := l _ _ (by omega) (by omega)
        rw [b1, b2]
        refine dEq_c rf.1 (fun y p y0 y1 p0 p1 => ?_)
        exact (a3 y p y0 (by rw [c2]; exact y1) p0 (by rw [c1]; exact p1)).trans (l _ _ (by omega) (by omega))
      · omega
    · have N2 := ok.1
      rcases kg with ⟨a0, _⟩ | ⟨a0, hn, a4, V5, gx, g5, rows⟩
      · omega
      · have ok2 := gr_OK hn a4 gx g5 rows p1
        rw [e] at ok2
        refine ⟨fun j => if j = 3 then I' 3 else if j = 33 then gr0 (dd 33) (I' 3 0 3) else dd j, ?_, ?_, fun k k0 k1 q => ?_, ?_, fun k k0 k1 q => ?_, ?_, ro⟩
        · have o35 : V' 57 35 = 0 := kz.2 (by omega)
          refine mI_x (fun j j1 => ?_) (fun j j0 j1 => ?_) ?_ (fun j j0 j1 => ?_)
          · by_cases y : j = 3
            · rw [if_pos y, y]
            · rw [if_neg y, if_neg (show ¬ j = 33 by omega), oth j y]
              unfold rwG
              rw [if_neg (by omega), mI_k j1]
          · rw [oth j (by omega), e85]
            unfold rwG
            rw [if_neg (by omega), mI_j ⟨j0, j1⟩]
          · rw [oth 23 (by omega)]
            unfold rwG
            (try dsimp only)
            rw [if_neg (show ¬ (33 : Int) = 3 by omega), if_pos (show (33 : Int) = 33 from rfl), if_pos rfl, mI_23]
            funext a i
            unfold gr0 rwB
            by_cases q : a = 0
            · rw [if_pos q, if_pos q, o35]
            · rw [if_neg q, if_neg q, e84]
              by_cases q1 : a = 1
              · rw [if_pos q1, if_neg (show ¬ a = 2 by omega), if_neg (show ¬ a = 5 by omega), if_neg q, if_pos q1]
              · repeat (first | rw [if_neg q1] | rw [if_neg q] | dsimp only)
          · rw [oth j (by omega)]
            unfold rwG
            (try dsimp only)
            rw [if_neg (show ¬ (10 + j : Int) = 3 by omega), if_neg (show ¬ (10 + j : Int) = 33 by omega), if_neg j1, mI_20 j0 j1]
            exact eK _ _
        · (try dsimp only)
          rw [if_pos rfl]
          exact dEq_OK ok hx ok2
        · (try dsimp only)
          rw [if_neg (show ¬ k = 3 by omega), if_neg (show ¬ k = 33 by omega)]
          exact im k k0 k1 q
        · (try dsimp only)
          rw [if_neg (show ¬ (33 : Int) = 3 by omega), if_pos (show (33 : Int) = 33 from rfl), if_pos (show (3 : Int) = 3 from rfl)]
          have g2 : ∀ i, gr0 (dd 33) (I' 3 0 3) 2 i = 0 := fun i => by unfold gr0; rw [if_neg (by omega), if_pos rfl]
          have CC := gp_eq p1 (dEq_OK ok hx ok2)
          have n := MI_N p1
          have C1 := CC.1
          refine ⟨⟨by unfold gr0; rw [if_neg (by omega), if_neg (by omega), if_pos rfl], by omega⟩, fun a a0 a1 => ?_⟩
          have z78 : V' 78 a = 0 := yz (by omega) a a0 a1
          (try dsimp only)
          rw [g2, z78]
          exact ⟨rfl, fun q => by omega⟩
        · (try dsimp only)
          rw [if_neg (show ¬ 30 + k = 3 by omega), if_neg (show ¬ 30 + k = 33 by omega), if_neg (show ¬ k = 3 by omega), if_neg (show ¬ k = 33 by omega)]
          exact ak k k0 k1 q
        · intro i i0 i1
          have o35 : V' 57 35 = 0 := kz.2 (by omega)
          rw [o35] at i1
          omega
end
