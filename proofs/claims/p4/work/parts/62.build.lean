/-! loops that may change the heap's shape; what the heap keeps is known after a call -/
def gFr (G : List gS) (R V : gV) : Prop := ∀ (a : Nat) (i : Int), G.length ≤ a → V a i = 0 ∧ R a i = -1
section
variable {K : gK} {d : Nat} {Q : gQ} {pc y : Nat} {L : gL} {st as : List zV} {G : List gS} {R V : gV}
theorem wp_fr (w : VR G V → gFr G R V → wp K d Q pc L st G R V) : wp K d Q pc L st G R V := fun h ls hh hl => w hh.2.2.2.1 hh.2.2.2.2 h ls hh hl
theorem cw_po (w : cw d Q y as G R V) : cw d (fun r G' R' V' => Q r G' R' V' ∧ VR G' V' ∧ gFr G' R' V') y as G R V := by
  intro h hh
  obtain ⟨r, h', G', R', V', a, b, c⟩ := w h hh
  exact ⟨r, h', G', R', V', a, ⟨b, a.2.2.2.1, a.2.2.2.2⟩, c⟩
theorem loopG {f : Int → gL} (Inv : Int → List gS → gV → gV → Prop) (μ : Int → Nat) (H : ∀ x G R V, Inv x G R V → (∀ y G' R' V', Inv y G' R' V' → μ y < μ x → wp K d Q pc (f y) [] G' R' V') → wp K d Q pc (f x) [] G R V) (x : Int) (G : List gS) (R V : gV) (h : Inv x G R V) : wp K d Q pc (f x) [] G R V := by
  obtain ⟨n, hn⟩ : ∃ n, μ x = n := ⟨_, rfl⟩
  induction n using Nat.strongRecOn generalizing x G R V with
  | ind n ih => exact H x G R V h (fun y G' R' V' hy hm => ih (μ y) (by omega) y G' R' V' hy rfl)
theorem loop1g {f : Int → gL} (Inv : Int → gV → Prop) (μ : Int → gV → Nat) (H : ∀ x V, Inv x V → (∀ y V', Inv y V' → μ y V' < μ x V → wp K d Q pc (f y) [] G R V') → wp K d Q pc (f x) [] G R V) (x : Int) (V : gV) (h : Inv x V) : wp K d Q pc (f x) [] G R V := by
  obtain ⟨n, hn⟩ : ∃ n, μ x V = n := ⟨_, rfl⟩
  induction n using Nat.strongRecOn generalizing x V with
  | ind n ih => exact H x V h (fun y V' hy hm => ih (μ y V') (by omega) y V' hy rfl)
end
/-! what a part's cells may hold is kept where nothing of it changes -/
section
variable {G G' : List gS} {R R' : gV} {T T' : gT} {x p n y o m f k b g : Nat} {C D E : Int}
theorem tA_m (h : tA G R T x C D) (hG : gX2 G G') (hR : ∀ i, i ≠ 10 → R' x i = R x i) (hT : ∀ c, x ≤ c → c ≤ x + 7 → T' c = T c) : tA G' R' T' x C D := by
  refine tA.mk (lay6_m h.ly hG ⟨hR _ (by omega), hR _ (by omega), hR _ (by omega), hR _ (by omega), hR _ (by omega), hR _ (by omega), hR _ (by omega)⟩) h.c0 h.d0 ?_ ?_ ?_ ?_ ?_ ?_ ?_ ?_ ?_ ?_
  · rw [hT x (by omega) (by omega)]; exact h.pl
  · rw [hT x (by omega) (by omega)]; exact h.ct
  · rw [hT x (by omega) (by omega)]; exact h.mm
  · rw [hT (x + 1) (by omega) (by omega)]; exact h.co
  · rw [hT (x + 2) (by omega) (by omega)]; exact h.iv
  · rw [hT (x + 3) (by omega) (by omega)]; exact h.od
  · rw [hT (x + 4) (by omega) (by omega)]; exact h.st
  · rw [hT (x + 5) (by omega) (by omega)]; exact h.mc
  · rw [hT (x + 6) (by omega) (by omega)]; exact h.re
  · rw [hT (x + 7) (by omega) (by omega)]; exact h.ir
theorem tT_m (h : tT G R T x p n C D) (hG : gX2 G G') (hR : ∀ i, R' x i = R x i) (hT : ∀ c, x ≤ c → c ≤ x + 7 → T' c = T c) (hp : T' p = T p) : tT G' R' T' x p n C D :=
  tT.mk (tA_m h.a hG (fun i _ => hR i) hT) ((hR 10).trans h.rp) (hG _ _ h.gp) h.cn (by rw [hp]; exact h.pr)
theorem hA_m (h : hA G R T y) (hG : gX2 G G') (hR : ∀ i, i ≠ 13 → R' y i = R y i) (hT : ∀ c, y ≤ c → c ≤ y + 11 → T' c = T c) : hA G' R' T' y := by
  refine hA.mk (lay4_m h.ly hG ⟨hR _ (by omega), hR _ (by omega), hR _ (by omega), hR _ (by omega), hR _ (by omega), hR _ (by omega), hR _ (by omega), hR _ (by omega), hR _ (by omega), hR _ (by omega), hR _ (by omega)⟩) ?_ ?_ ?_ ?_ ?_ ?_ ?_ ?_ ?_ ?_ ?_ ?_ ?_
  · rw [hT y (by omega) (by omega)]; exact h.cn
  · rw [hT y (by omega) (by omega)]; exact h.cl
  · rw [hT (y + 1) (by omega) (by omega)]; exact h.lo
  · rw [hT (y + 2) (by omega) (by omega)]; exact h.hi
  · rw [hT (y + 3) (by omega) (by omega)]; exact h.sz
  · rw [hT (y + 4) (by omega) (by omega)]; exact h.co
  · rw [hT (y + 5) (by omega) (by omega)]; exact h.mb
  · rw [hT (y + 6) (by omega) (by omega)]; exact h.de
  · rw [hT (y + 7) (by omega) (by omega)]; exact h.fi
  · rw [hT (y + 8) (by omega) (by omega)]; exact h.nu
  · rw [hT (y + 9) (by omega) (by omega)]; exact h.si
  · rw [hT (y + 10) (by omega) (by omega)]; exact h.sp
  · rw [hT (y + 11) (by omega) (by omega)]; exact h.so
theorem hT_m (h : hT G R T y o m E) (hG : gX2 G G') (hR : ∀ i, R' y i = R y i) (hT' : ∀ c, y ≤ c → c ≤ y + 11 → T' c = T c) (ho : T' o = T o) : hT G' R' T' y o m E :=
  hT.mk (hA_m h.a hG (fun i _ => hR i) hT') ((hR 13).trans h.ro) (hG _ _ h.go) h.e0 h.em (by rw [hT' y (by omega) (by omega)]; exact h.cE) (by rw [ho]; exact h.ov)
theorem fT_m (h : fT G R T f) (hG : gX2 G G') (hR : ∀ i, R' f i = R f i) (hT : ∀ c, f ≤ c → c ≤ f + 11 → T' c = T c) : fT G' R' T' f := by
  refine fT.mk (lay3_m h.ly hG ⟨hR _, hR _, hR _, hR _, hR _, hR _, hR _, hR _, hR _, hR _, hR _⟩) ?_ ?_ ?_ ?_ ?_ ?_ ?_ ?_ ?_ ?_ ?_ ?_ ?_ ?_ ?_ ?_ ?_ ?_
  · rw [hT f (by omega) (by omega)]; exact h.cn
  · rw [hT f (by omega) (by omega)]; exact h.kd
  · rw [hT f (by omega) (by omega)]; exact h.sd
  · rw [hT f (by omega) (by omega)]; exact h.mb
  · rw [hT f (by omega) (by omega)]; exact h.nl
  · rw [hT f (by omega) (by omega)]; exact h.nh
  · rw [hT f (by omega) (by omega)]; exact h.ns
  · rw [hT (f + 1) (by omega) (by omega)]; exact h.lo
  · rw [hT (f + 2) (by omega) (by omega)]; exact h.hi
  · rw [hT (f + 3) (by omega) (by omega)]; exact h.sz
  · rw [hT (f + 4) (by omega) (by omega)]; exact h.ki
  · rw [hT (f + 5) (by omega) (by omega)]; exact h.kh
  · rw [hT (f + 6) (by omega) (by omega)]; exact h.km
  · rw [hT (f + 7) (by omega) (by omega)]; exact h.ma
  · rw [hT (f + 8) (by omega) (by omega)]; exact h.se
  · rw [hT (f + 9) (by omega) (by omega)]; exact h.le
  · rw [hT (f + 10) (by omega) (by omega)]; exact h.me
  · rw [hT (f + 11) (by omega) (by omega)]; exact h.ed
theorem kT_m (h : kT G R T k) (hG : gX2 G G') (hR : ∀ i, R' k i = R k i) (hT : ∀ c, k ≤ c → c ≤ k + 3 → T' c = T c) : kT G' R' T' k := by
  refine kT.mk (lay0_m h.ly hG ⟨hR _, hR _, hR _⟩) ?_ ?_ ?_
  · rw [hT (k + 1) (by omega) (by omega)]; exact h.ma
  · rw [hT (k + 2) (by omega) (by omega)]; exact h.pa
  · rw [hT (k + 3) (by omega) (by omega)]; exact h.se
theorem bT_m (h : bT G R T b) (hG : gX2 G G') (hR : ∀ i, i ≠ 0 → R' b i = R b i) (hT : ∀ c, b ≤ c → c ≤ b + 4 → T' c = T c) : bT G' R' T' b := by
  refine bT.mk (lay1_m h.ly hG ⟨hR _ (by omega), hR _ (by omega), hR _ (by omega), hR _ (by omega)⟩) ?_ ?_ ?_ ?_ ?_
  · rw [hT b (by omega) (by omega)]; exact h.rl
  · rw [hT (b + 1) (by omega) (by omega)]; exact h.th
  · rw [hT (b + 2) (by omega) (by omega)]; exact h.rw
  · rw [hT (b + 3) (by omega) (by omega)]; exact h.mk'
  · rw [hT (b + 4) (by omega) (by omega)]; exact h.pt
theorem gT2_m (h : gT2 G R T g p n C D o m E) (hG : gX2 G G') (hR : ∀ c i, g ≤ c → c ≤ g + 21 → R' c i = R c i) (hT : ∀ c, g ≤ c → c ≤ g + 21 → T' c = T c) (hp : T' p = T p) (ho : T' o = T o) : gT2 G' R' T' g p n C D o m E := by
  have a := tT_m h.t hG (fun i => hR _ _ (by omega) (by omega)) (fun c h1 h2 => hT c (by omega) (by omega)) hp
  have b := hT_m h.h hG (fun i => hR _ _ (by omega) (by omega)) (fun c h1 h2 => hT c (by omega) (by omega)) ho
  exact gT2.mk (lay2_m h.ly hG ⟨hR _ _ (by omega) (by omega), hR _ _ (by omega) (by omega)⟩ a.ly b.a.ly) a b
end
/-! turns are built -/
section
variable {G : List gS} {R V : gV} {T : gT} {x p n : Nat} {C D : Int}
def gR (G : List gS) (p n : Nat) (G' : List gS) (p' n' L : Nat) : Prop := (G' = G ∧ p' = p ∧ n' = n) ∨ (G' = G ++ [gA 0 n'] ∧ p' = G.length ∧ 2 * n ≤ n' ∧ n' ≤ L)
def bdP (G : List gS) (R : gV) (T : gT) (x p n : Nat) (v : Int) (G' : List gS) (R' V' : gV) : Prop := ∃ (T' : gT) (p' n' : Nat) (C' D' : Int), TH T' V' ∧ tT G' R' T' x p' n' C' D' ∧ (v ≠ 0 → D' ≤ C') ∧ x + 7 < p' ∧ (∀ c, (c < x ∨ x + 7 < c) → c ≠ p → c ≠ p' → T' c = T c) ∧ (∀ c i, (c ≠ x ∨ i ≠ 10) → R' c i = R c i) ∧ gR G p n G' p' n' 28800
theorem turnsBuild_k (t : tT G R T x p n C D) (th : TH T V) (hp : x + 7 < p) {a : Int} (ha : 1 ≤ a ∧ a ≤ 8) {q : Nat} (hq : G[q]? = some (gA 0 4)) : cw 4 (fun r G' R' V' => ∃ v : Int, r = some (0, v) ∧ (0 ≤ v ∧ v ≤ 1) ∧ bdP G R T x p n v G' R' V') 92 [(4, (x : Int)), (0, a), (4, (q : Int))] G R V := by
  have c0 := t.c0
  refine c_X6_build (t_X6_build_0 ⟨ly6_o t.ly, by omega, ?_⟩)
  have t1 : tT G R (upF T x 1 (fun v => 1 ≤ v ∧ v ≤ 120)) x p n C 120 := by
    refine tT.mk (tA.mk t.ly t.c0 (by omega) ?_ ?_ ?_ ?_ ?_ ?_ ?_ ?_ ?_ ?_) t.rp t.gp t.cn ?_
    · rw [upF_i (by omega)]; exact t.pl
    · exact fun v h => by have := upF_s.mp h; omega
    · rw [upF_i (by omega)]; exact t.mm
    · rw [upF_n (by omega)]; exact t.co
    · rw [upF_n (by omega)]; exact t.iv
    · rw [upF_n (by omega)]; exact t.od
    · rw [upF_n (by omega)]; exact t.st
    · rw [upF_n (by omega)]; exact t.mc
    · rw [upF_n (by omega)]; exact t.re
    · rw [upF_n (by omega)]; exact t.ir
    · rw [upF_n (by omega)]; exact t.pr
  have th1 : TH (upF T x 1 (fun v => 1 ≤ v ∧ v ≤ 120)) (wr V x 0 a) := by
    refine TH_upF (TH_wr th ((t.pl _).mpr ha)) ?_
    have := t.ct _ (th x 1)
    have := t.d0
    rw [wr_i (by omega)]
    omega
  have f1 : ∀ c, (c < x ∨ x + 7 < c) → upF T x 1 (fun v => 1 ≤ v ∧ v ≤ 120) c = T c := fun c h => upF_n (by omega)
  have s1 : ∀ v, 1 ≤ v → v ≤ 120 → upF T x 1 (fun v => 1 ≤ v ∧ v ≤ 120) x 1 v := fun v h1 h2 => upF_s.mpr ⟨h1, h2⟩
  clear th
  generalize upF T x 1 (fun v => 1 ≤ v ∧ v ≤ 120) = T1 at *
  refine w0_u (keepMakers_k t1.a th1 hq) (fun V3 th3 => wI_u (collect_k t1.a th3 s1) (fun v5 V4 hv th4 => ⟨by omega, fun hv5 => ?_, fun hv5 => ⟨0, rfl, by omega, T1, p, n, C, 120, th4, t1, fun z => absurd rfl z, hp, fun c h _ _ => f1 c h, fun _ _ _ => rfl, Or.inl ⟨rfl, rfl, rfl⟩⟩⟩))
  have ct := t1.ct _ (th4 x 1)
  obtain ⟨N, eN⟩ : ∃ N, N = V4 x 1 := ⟨_, rfl⟩
  rw [← eN] at ct
  obtain ⟨C2, h1, h2, h3, h4⟩ : ∃ C2 : Int, C ≤ C2 ∧ N ≤ C2 ∧ C2 ≤ 120 ∧ ((C2 = C ∧ N * N ≤ n) ∨ C2 = N) := by
    by_cases h : N ≤ C
    · exact ⟨C, by omega, h, by omega, Or.inl ⟨rfl, Int.le_trans (Int.mul_le_mul h h (by omega) (by omega)) t.cn⟩⟩
    · exact ⟨N, by omega, by omega, by omega, Or.inr rfl⟩
  obtain ⟨T2, eT⟩ : ∃ T2, T2 = upF (upT (upT (upT (upT T1 (x + 2) (fun v => 0 ≤ v ∧ v < C2)) (x + 4) (fun v => 0 ≤ v ∧ v < C2)) (x + 6) (fun v => 0 ≤ v ∧ v < C2)) p (fun v => 0 ≤ v ∧ v < C2)) x 1 (fun v => v = N) := ⟨_, rfl⟩
  have k0 : ∀ c, c ≠ x → c ≠ x + 2 → c ≠ x + 4 → c ≠ x + 6 → c ≠ p → T2 c = T1 c := fun c z1 z2 z3 z4 z5 => by rw [eT, upF_n z1, upT_n z5, upT_n z4, upT_n z3, upT_n z2]
  have k1 : ∀ i, i ≠ 1 → T2 x i = T1 x i := fun i z => by rw [eT, upF_i z, upT_n (by omega), upT_n (by omega), upT_n (by omega), upT_n (by omega)]
  have k2 : ∀ i v, T2 (x + 2) i v ↔ 0 ≤ v ∧ v < C2 := fun i v => by rw [eT, upF_n (by omega), upT_n (by omega), upT_n (by omega), upT_n (by omega)]; exact upT_s
  have k4 : ∀ i v, T2 (x + 4) i v ↔ 0 ≤ v ∧ v < C2 := fun i v => by rw [eT, upF_n (by omega), upT_n (by omega), upT_n (by omega)]; exact upT_s
  have k6 : ∀ i v, T2 (x + 6) i v ↔ 0 ≤ v ∧ v < C2 := fun i v => by rw [eT, upF_n (by omega), upT_n (by omega)]; exact upT_s
  have kp : ∀ i v, T2 p i v ↔ 0 ≤ v ∧ v < C2 := fun i v => by rw [eT, upF_n (by omega)]; exact upT_s
  have kn : ∀ v, T2 x 1 v ↔ v = N := fun v => by rw [eT]; exact upF_s
  have th2 : TH T2 V4 := by
    rw [eT]
    refine TH_upF (TH_upT (TH_upT (TH_upT (TH_upT th4 (fun i => ?_)) (fun i => ?_)) (fun i => ?_)) (fun i => ?_)) eN.symm
    · have := (t1.iv _ _).mp (th4 (x + 2) i); omega
    · have := (t1.st _ _).mp (th4 (x + 4) i); omega
    · have := (t1.re _ _).mp (th4 (x + 6) i); omega
    · have := (t1.pr _ _).mp (th4 p i); omega
  have t2 : tA G R T2 x C2 N := by
    refine tA.mk t.ly ⟨by omega, h3⟩ (by omega) ?_ ?_ ?_ ?_ k2 ?_ k4 ?_ k6 ?_
    · rw [k1 0 (by omega)]; exact t1.pl
    · exact fun v h => by have := (kn v).mp h; omega
    · rw [k1 2 (by omega)]; exact t1.mm
    · rw [k0 (x + 1) (by omega) (by omega) (by omega) (by omega) (by omega)]; exact t1.co
    · rw [k0 (x + 3) (by omega) (by omega) (by omega) (by omega) (by omega)]; exact t1.od
    · rw [k0 (x + 5) (by omega) (by omega) (by omega) (by omega) (by omega)]; exact t1.mc
    · rw [k0 (x + 7) (by omega) (by omega) (by omega) (by omega) (by omega)]; exact t1.ir
  clear eT
  refine w0_u (sortCodes_k t2 th2) (fun V7 th7 => w0_u (fillSteps_k t2 h2 th7) (fun V8 th8 => cw_mono (by omega) (fillProducts_k t2 h2 (fun v => (kn v).mp) th8 t.rp t.gp (Or.inr hp) kp ?_ ?_) (fun r G9 R9 V9 h9 => ?_)))
  · intro z
    rcases h4 with h4 | h4
    · rw [h4.1]; exact t.cn
    · rw [h4]; exact z
  · intro z
    rcases h4 with h4 | h4
    · omega
    · exact h4
  · obtain ⟨e1, p', n', eR, th9, t9, dj⟩ := h9
    have lx := (List.getElem?_eq_some_iff.mp (ly6_9 t.ly).2).1
    refine ⟨e1, ly6_o t9.ly, w0_u (fillPowers_k t9 h2 th9) (fun V10 th10 => ⟨1, rfl, by omega, upT T2 p' (fun v => 0 ≤ v ∧ v < C2), p', n', C2, N, th10, t9, fun _ => h2, ?_, ?_, ?_, dj⟩)⟩
    · rcases dj with dj | dj <;> omega
    · intro c z1 z2 z3
      rw [upT_n z3, k0 c (by omega) (by omega) (by omega) (by omega) z2, f1 c z1]
    · intro c i z
      rw [eR]
      rcases z with z | z
      · exact wr_a z
      · exact wr_i z
end
