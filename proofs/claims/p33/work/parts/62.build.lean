/-! loops that may change the heap's shape; what the heap keeps is known after a call -/
def gFr (G : List gS) (R V : gV) : Prop := ∀ (a : Nat) (i : Int), G.length ≤ a → V a i = 0 ∧ R a i = -1
section
variable {K : gK} {d : Nat} {Q : gQ} {pc y : Nat} {L : gL} {st as : List zV} {G : List gS} {R V : gV}
theorem wp_fr (w : VR G V → gFr G R V → wp K d Q pc L st G R V) : wp K d Q pc L st G R V := fun h ls hh hl => w hh.2.2.2.1 hh.2.2.2.2 h ls hh hl
theorem cw_po (w : cw d Q y as G R V) : cw d (fun r G' R' V' => Q r G' R' V' ∧ VR G' V' ∧ gFr G' R' V') y as G R V := by
  intro h hh
  obtain ⟨r, h', G', R', V', a, b, c⟩ := w h hh
  exact ⟨r, h', G', R', V', a, ⟨b, a.2.2.2.1, a.2.2.2.2⟩, c⟩
theorem loopG {f : Int → gL} (Inv : Int → List gS → gV → gV → Prop) (μ : Int → Nat) (H : ∀ x G R V, Inv x G R V → (∀ y G' R' V', Inv y G' R' V' → μ y < μ x → wp K d Q pc (f y) [] G' R' V') → wp K d Q pc (f x) [] G R V) (x : Int) (G : List gS) (R V : gV) (h : Inv x G R V) : wp K d Q pc (f x) [] G R V := by
  obtain ⟨n, hn⟩ : ∃ n, μ x = n := ⟨_, rfl⟩
  induction n using Nat.strongRecOn generalizing x G R V with
  | ind n ih => exact H x G R V h (fun y G' R' V' hy hm => ih (μ y) (by omega) y G' R' V' hy rfl)
theorem loop1g {f : Int → gL} (Inv : Int → gV → Prop) (μ : Int → gV → Nat) (H : ∀ x V, Inv x V → (∀ y V', Inv y V' → μ y V' < μ x V → wp K d Q pc (f y) [] G R V') → wp K d Q pc (f x) [] G R V) (x : Int) (V : gV) (h : Inv x V) : wp K d Q pc (f x) [] G R V := by
  obtain ⟨n, hn⟩ : ∃ n, μ x V = n := ⟨_, rfl⟩
  induction n using Nat.strongRecOn generalizing x V with
  | ind n ih => exact H x V h (fun y V' hy hm => ih (μ y V') (by omega) y V' hy rfl)
end
/-! what a part's cells may hold is kept where nothing of it changes -/
section
variable {G G' : List gS} {R R' : gV} {T T' : gT} {x p n y o m f k b g : Nat} {C D E : Int}
theorem tA_m (h : tA G R T x C D) (hG : gX2 G G') (hR : ∀ i, i ≠ 10 → R' x i = R x i) (hT : ∀ c, x ≤ c → c ≤ x + 7 → T' c = T c) : tA G' R' T' x C D := by
  refine tA.mk (lay6_m h.ly hG ⟨hR _ (by omega), hR _ (by omega), hR _ (by omega), hR _ (by omega), hR _ (by omega), hR _ (by omega), hR _ (by omega)⟩) h.c0 h.d0 ?_ ?_ ?_ ?_ ?_ ?_ ?_
  · rw [hT x (by omega) (by omega)]; exact h.pl
  · rw [hT x (by omega) (by omega)]; exact h.ct
  · rw [hT x (by omega) (by omega)]; exact h.mm
  · rw [hT (x + 2) (by omega) (by omega)]; exact h.iv
  · rw [hT (x + 3) (by omega) (by omega)]; exact h.od
  · rw [hT (x + 4) (by omega) (by omega)]; exact h.st
  · rw [hT (x + 6) (by omega) (by omega)]; exact h.re
theorem tT_m (h : tT G R T x p n C D) (hG : gX2 G G') (hR : ∀ i, R' x i = R x i) (hT : ∀ c, x ≤ c → c ≤ x + 7 → T' c = T c) (hp : T' p = T p) : tT G' R' T' x p n C D :=
  tT.mk (tA_m h.a hG (fun i _ => hR i) hT) ((hR 10).trans h.rp) (hG _ _ h.gp) h.cn (by rw [hp]; exact h.pr)
theorem hA_m (h : hA G R T y) (hG : gX2 G G') (hR : ∀ i, i ≠ 13 → R' y i = R y i) (hT : ∀ c, y ≤ c → c ≤ y + 11 → T' c = T c) : hA G' R' T' y := by
  refine hA.mk (lay4_m h.ly hG ⟨hR _ (by omega), hR _ (by omega), hR _ (by omega), hR _ (by omega), hR _ (by omega), hR _ (by omega), hR _ (by omega), hR _ (by omega), hR _ (by omega), hR _ (by omega), hR _ (by omega)⟩) ?_ ?_ ?_ ?_ ?_ ?_ ?_ ?_ ?_ ?_
  · rw [hT y (by omega) (by omega)]; exact h.cn
  · rw [hT y (by omega) (by omega)]; exact h.cl
  · rw [hT (y + 3) (by omega) (by omega)]; exact h.sz
  · rw [hT (y + 4) (by omega) (by omega)]; exact h.co
  · rw [hT (y + 5) (by omega) (by omega)]; exact h.mb
  · rw [hT (y + 6) (by omega) (by omega)]; exact h.de
  · rw [hT (y + 7) (by omega) (by omega)]; exact h.fi
  · rw [hT (y + 8) (by omega) (by omega)]; exact h.nu
  · rw [hT (y + 10) (by omega) (by omega)]; exact h.sp
  · rw [hT (y + 11) (by omega) (by omega)]; exact h.so
theorem hT_m (h : hT G R T y o m E) (hG : gX2 G G') (hR : ∀ i, R' y i = R y i) (hT' : ∀ c, y ≤ c → c ≤ y + 11 → T' c = T c) (ho : T' o = T o) : hT G' R' T' y o m E :=
  hT.mk (hA_m h.a hG (fun i _ => hR i) hT') ((hR 13).trans h.ro) (hG _ _ h.go) h.e0 h.em (by rw [hT' y (by omega) (by omega)]; exact h.cE) (by rw [ho]; exact h.ov)
theorem hB_m (h : hB T y o) (hT' : ∀ c, y ≤ c → c ≤ y + 11 → T' c = T c) (ho : T' o = T o) : hB T' y o := by
  have e : ∀ j, j ≤ 11 → T' (y + j) = T (y + j) := fun j hj => hT' _ (by omega) (by omega)
  have e0 : T' y = T y := e 0 (by omega)
  exact hB.mk (by rw [e0]; exact h.cn) (by rw [e 1 (by omega)]; exact h.lo) (by rw [e 2 (by omega)]; exact h.hi) (by rw [e 3 (by omega)]; exact h.sz) (by rw [e 4 (by omega)]; exact h.co) (by rw [e 5 (by omega)]; exact h.mb) (by rw [e 7 (by omega)]; exact h.fi) (by rw [e 8 (by omega)]; exact h.nu) (by rw [e 9 (by omega)]; exact h.si) (by rw [e 10 (by omega)]; exact h.sp) (by rw [e 11 (by omega)]; exact h.so) (by rw [ho]; exact h.ov) (by rw [e 6 (by omega)]; exact h.de)
theorem fT_m (h : fT G R T f) (hG : gX2 G G') (hR : ∀ i, R' f i = R f i) (hT : ∀ c, f ≤ c → c ≤ f + 11 → T' c = T c) : fT G' R' T' f := by
  refine fT.mk (lay3_m h.ly hG ⟨hR _, hR _, hR _, hR _, hR _, hR _, hR _, hR _, hR _, hR _, hR _⟩) ?_ ?_ ?_ ?_ ?_ ?_ ?_ ?_ ?_ ?_ ?_ ?_ ?_ ?_ ?_ ?_ ?_ ?_
  · rw [hT f (by omega) (by omega)]; exact h.cn
  · rw [hT f (by omega) (by omega)]; exact h.kd
  · rw [hT f (by omega) (by omega)]; exact h.sd
  · rw [hT f (by omega) (by omega)]; exact h.mb
  · rw [hT f (by omega) (by omega)]; exact h.nl
  · rw [hT f (by omega) (by omega)]; exact h.nh
  · rw [hT f (by omega) (by omega)]; exact h.ns
  · rw [hT (f + 1) (by omega) (by omega)]; exact h.lo
  · rw [hT (f + 2) (by omega) (by omega)]; exact h.hi
  · rw [hT (f + 3) (by omega) (by omega)]; exact h.sz
  · rw [hT (f + 4) (by omega) (by omega)]; exact h.ki
  · rw [hT (f + 5) (by omega) (by omega)]; exact h.kh
  · rw [hT (f + 6) (by omega) (by omega)]; exact h.km
  · rw [hT (f + 7) (by omega) (by omega)]; exact h.ma
  · rw [hT (f + 8) (by omega) (by omega)]; exact h.se
  · rw [hT (f + 9) (by omega) (by omega)]; exact h.le
  · rw [hT (f + 10) (by omega) (by omega)]; exact h.me
  · rw [hT (f + 11) (by omega) (by omega)]; exact h.ed
theorem kT_m (h : kT G R T k) (hG : gX2 G G') (hR : ∀ i, R' k i = R k i) (hT : ∀ c, k ≤ c → c ≤ k + 3 → T' c = T c) : kT G' R' T' k := by
  refine kT.mk (lay0_m h.ly hG ⟨hR _, hR _, hR _⟩) ?_ ?_ ?_
  · rw [hT (k + 1) (by omega) (by omega)]; exact h.ma
  · rw [hT (k + 2) (by omega) (by omega)]; exact h.pa
  · rw [hT (k + 3) (by omega) (by omega)]; exact h.se
theorem bT_m (h : bT G R T b) (hG : gX2 G G') (hR : ∀ i, i ≠ 0 → R' b i = R b i) (hT : ∀ c, b ≤ c → c ≤ b + 4 → T' c = T c) : bT G' R' T' b := by
  refine bT.mk (lay1_m h.ly hG ⟨hR _ (by omega), hR _ (by omega), hR _ (by omega), hR _ (by omega)⟩) ?_ ?_ ?_ ?_
  · rw [hT b (by omega) (by omega)]; exact h.rl
  · rw [hT (b + 1) (by omega) (by omega)]; exact h.th
  · rw [hT (b + 3) (by omega) (by omega)]; exact h.mk'
  · rw [hT (b + 4) (by omega) (by omega)]; exact h.pt
theorem gT2_m (h : gT2 G R T g p n C D o m E) (hG : gX2 G G') (hR : ∀ c i, g ≤ c → c ≤ g + 21 → R' c i = R c i) (hT : ∀ c, g ≤ c → c ≤ g + 21 → T' c = T c) (hp : T' p = T p) (ho : T' o = T o) : gT2 G' R' T' g p n C D o m E := by
  have a := tT_m h.t hG (fun i => hR _ _ (by omega) (by omega)) (fun c h1 h2 => hT c (by omega) (by omega)) hp
  have b := hT_m h.h hG (fun i => hR _ _ (by omega) (by omega)) (fun c h1 h2 => hT c (by omega) (by omega)) ho
  exact gT2.mk (lay2_m h.ly hG ⟨hR _ _ (by omega) (by omega), hR _ _ (by omega) (by omega)⟩ a.ly b.a.ly) a b
end
/-! turns are built -/
section
variable {G : List gS} {R V : gV} {T : gT} {x p n : Nat} {C D : Int}
def gR (G : List gS) (p n : Nat) (G' : List gS) (p' n' L : Nat) : Prop := (G' = G ∧ p' = p ∧ n' = n) ∨ (G' = G ++ [gA 0 n'] ∧ p' = G.length ∧ 2 * n ≤ n' ∧ n' ≤ L)
end
