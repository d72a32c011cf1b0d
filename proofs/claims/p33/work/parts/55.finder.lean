/-! the finder of heaps -/
def Fr (S : Nat → Int → Prop) (V V' : gV) : Prop := ∀ c i, ¬ S c i → V' c i = V c i
theorem Fr_0 {S : Nat → Int → Prop} {V : gV} : Fr S V V := fun _ _ _ => rfl
theorem Fr_t {S : Nat → Int → Prop} {V V1 V2 : gV} (a : Fr S V V1) (b : Fr S V1 V2) : Fr S V V2 := fun c i h => (b c i h).trans (a c i h)
theorem Fr_w {S : Nat → Int → Prop} {V V1 : gV} {c : Nat} {i v : Int} (a : Fr S V V1) (h : S c i) : Fr S V (wr V1 c i v) := fun c' i' h' => by
  rw [wr_ne (fun q => h' (by rw [q.1, q.2]; exact h))]
  exact a c' i' h'
theorem Fr_m {S S' : Nat → Int → Prop} {V V1 : gV} (a : Fr S V V1) (h : ∀ c i, S c i → S' c i) : Fr S' V V1 := fun c i h' => a c i (fun q => h' (h c i q))
def fT (G : List gS) (R : gV) (T : gT) (f : Nat) : Prop := (lay3 G R f) ∧ (∀ v, T f 0 v ↔ 0 ≤ v ∧ v ≤ 300) ∧ (∀ v, T f 5 v ↔ 0 ≤ v ∧ v ≤ 300) ∧ (∀ v, T f 9 v ↔ 0 ≤ v ∧ v ≤ 120) ∧ (∀ v, T f 12 v ↔ 0 ≤ v ∧ v ≤ 120) ∧ (∀ v, T f 15 v) ∧ (∀ v, T f 16 v) ∧ (∀ v, T f 17 v ↔ 0 ≤ v ∧ v ≤ 14400) ∧ (∀ i v, T (f + 1) i v) ∧ (∀ i v, T (f + 2) i v) ∧ (∀ i v, T (f + 3) i v ↔ 0 ≤ v ∧ v ≤ 14400) ∧ (∀ i v, T (f + 4) i v) ∧ (∀ i v, T (f + 5) i v ↔ 0 ≤ v ∧ v < 300) ∧ (∀ i v, T (f + 6) i v ↔ 0 ≤ v ∧ v ≤ 8) ∧ (∀ i v, T (f + 7) i v) ∧ (∀ i v, T (f + 8) i v) ∧ (∀ i v, T (f + 9) i v) ∧ (∀ i v, T (f + 10) i v) ∧ (∀ i v, T (f + 11) i v)
theorem fT.ly {G : List gS} {R : gV} {T : gT} {f : Nat} (h : fT G R T f) : lay3 G R f := h.1
theorem fT.cn {G : List gS} {R : gV} {T : gT} {f : Nat} (h : fT G R T f) : ∀ v, T f 0 v ↔ 0 ≤ v ∧ v ≤ 300 := h.2.1
theorem fT.kd {G : List gS} {R : gV} {T : gT} {f : Nat} (h : fT G R T f) : ∀ v, T f 5 v ↔ 0 ≤ v ∧ v ≤ 300 := h.2.2.1
theorem fT.sd {G : List gS} {R : gV} {T : gT} {f : Nat} (h : fT G R T f) : ∀ v, T f 9 v ↔ 0 ≤ v ∧ v ≤ 120 := h.2.2.2.1
theorem fT.mb {G : List gS} {R : gV} {T : gT} {f : Nat} (h : fT G R T f) : ∀ v, T f 12 v ↔ 0 ≤ v ∧ v ≤ 120 := h.2.2.2.2.1
theorem fT.nl {G : List gS} {R : gV} {T : gT} {f : Nat} (h : fT G R T f) : ∀ v, T f 15 v := h.2.2.2.2.2.1
theorem fT.nh {G : List gS} {R : gV} {T : gT} {f : Nat} (h : fT G R T f) : ∀ v, T f 16 v := h.2.2.2.2.2.2.1
theorem fT.ns {G : List gS} {R : gV} {T : gT} {f : Nat} (h : fT G R T f) : ∀ v, T f 17 v ↔ 0 ≤ v ∧ v ≤ 14400 := h.2.2.2.2.2.2.2.1
theorem fT.lo {G : List gS} {R : gV} {T : gT} {f : Nat} (h : fT G R T f) : ∀ i v, T (f + 1) i v := h.2.2.2.2.2.2.2.2.1
theorem fT.hi {G : List gS} {R : gV} {T : gT} {f : Nat} (h : fT G R T f) : ∀ i v, T (f + 2) i v := h.2.2.2.2.2.2.2.2.2.1
theorem fT.sz {G : List gS} {R : gV} {T : gT} {f : Nat} (h : fT G R T f) : ∀ i v, T (f + 3) i v ↔ 0 ≤ v ∧ v ≤ 14400 := h.2.2.2.2.2.2.2.2.2.2.1
theorem fT.ki {G : List gS} {R : gV} {T : gT} {f : Nat} (h : fT G R T f) : ∀ i v, T (f + 4) i v := h.2.2.2.2.2.2.2.2.2.2.2.1
theorem fT.kh {G : List gS} {R : gV} {T : gT} {f : Nat} (h : fT G R T f) : ∀ i v, T (f + 5) i v ↔ 0 ≤ v ∧ v < 300 := h.2.2.2.2.2.2.2.2.2.2.2.2.1
theorem fT.km {G : List gS} {R : gV} {T : gT} {f : Nat} (h : fT G R T f) : ∀ i v, T (f + 6) i v ↔ 0 ≤ v ∧ v ≤ 8 := h.2.2.2.2.2.2.2.2.2.2.2.2.2.1
theorem fT.ma {G : List gS} {R : gV} {T : gT} {f : Nat} (h : fT G R T f) : ∀ i v, T (f + 7) i v := h.2.2.2.2.2.2.2.2.2.2.2.2.2.2.1
theorem fT.se {G : List gS} {R : gV} {T : gT} {f : Nat} (h : fT G R T f) : ∀ i v, T (f + 8) i v := h.2.2.2.2.2.2.2.2.2.2.2.2.2.2.2.1
theorem fT.le {G : List gS} {R : gV} {T : gT} {f : Nat} (h : fT G R T f) : ∀ i v, T (f + 9) i v := h.2.2.2.2.2.2.2.2.2.2.2.2.2.2.2.2.1
theorem fT.me {G : List gS} {R : gV} {T : gT} {f : Nat} (h : fT G R T f) : ∀ i v, T (f + 10) i v := h.2.2.2.2.2.2.2.2.2.2.2.2.2.2.2.2.2.1
theorem fT.ed {G : List gS} {R : gV} {T : gT} {f : Nat} (h : fT G R T f) : ∀ i v, T (f + 11) i v := h.2.2.2.2.2.2.2.2.2.2.2.2.2.2.2.2.2.2
theorem fT.mk {G : List gS} {R : gV} {T : gT} {f : Nat} (h_ly : lay3 G R f) (h_cn : ∀ v, T f 0 v ↔ 0 ≤ v ∧ v ≤ 300) (h_kd : ∀ v, T f 5 v ↔ 0 ≤ v ∧ v ≤ 300) (h_sd : ∀ v, T f 9 v ↔ 0 ≤ v ∧ v ≤ 120) (h_mb : ∀ v, T f 12 v ↔ 0 ≤ v ∧ v ≤ 120) (h_nl : ∀ v, T f 15 v) (h_nh : ∀ v, T f 16 v) (h_ns : ∀ v, T f 17 v ↔ 0 ≤ v ∧ v ≤ 14400) (h_lo : ∀ i v, T (f + 1) i v) (h_hi : ∀ i v, T (f + 2) i v) (h_sz : ∀ i v, T (f + 3) i v ↔ 0 ≤ v ∧ v ≤ 14400) (h_ki : ∀ i v, T (f + 4) i v) (h_kh : ∀ i v, T (f + 5) i v ↔ 0 ≤ v ∧ v < 300) (h_km : ∀ i v, T (f + 6) i v ↔ 0 ≤ v ∧ v ≤ 8) (h_ma : ∀ i v, T (f + 7) i v) (h_se : ∀ i v, T (f + 8) i v) (h_le : ∀ i v, T (f + 9) i v) (h_me : ∀ i v, T (f + 10) i v) (h_ed : ∀ i v, T (f + 11) i v) : fT G R T f := ⟨h_ly, h_cn, h_kd, h_sd, h_mb, h_nl, h_nh, h_ns, h_lo, h_hi, h_sz, h_ki, h_kh, h_km, h_ma, h_se, h_le, h_me, h_ed⟩
def seP (V : gV) (f : Nat) (C : Int) : Prop := ∀ i, 0 ≤ i → i < V f 9 → 0 ≤ V (f + 8) i ∧ V (f + 8) i < C
def meP (V : gV) (f : Nat) (C : Int) : Prop := ∀ i, 0 ≤ i → i < V f 12 → 0 ≤ V (f + 10) i ∧ V (f + 10) i < C
def maP (V : gV) (f : Nat) (C K : Int) : Prop := ∀ k m, 0 ≤ k → k < K → 0 ≤ m → m < V (f + 6) k → 0 ≤ V (f + 7) (k * 8 + m) ∧ V (f + 7) (k * 8 + m) < C
def edP (V : gV) (f : Nat) (C e : Int) : Prop := ∀ i, 0 ≤ i → i < e → 0 ≤ V (f + 11) i ∧ V (f + 11) i < C
abbrev S15 (f : Nat) : Nat → Int → Prop := fun c i => c = f ∧ (i = 15 ∨ i = 16)
abbrev Scl (f : Nat) : Nat → Int → Prop := fun c i => (c = f ∧ (i = 15 ∨ i = 16 ∨ i = 17)) ∨ c = f + 11
abbrev San (f : Nat) : Nat → Int → Prop := fun c i => (c = f ∧ i = 0) ∨ (f + 1 ≤ c ∧ c ≤ f + 4)
abbrev Sak (f : Nat) : Nat → Int → Prop := fun c i => (c = f ∧ (i = 0 ∨ i = 5 ∨ i = 15 ∨ i = 16)) ∨ (f + 1 ≤ c ∧ c ≤ f + 7)
theorem seP_f {S : Nat → Int → Prop} {V V' : gV} {f : Nat} {C : Int} (h : seP V f C) (e : Fr S V V') (s1 : ¬ S f 9) (s2 : ∀ i, ¬ S (f + 8) i) : seP V' f C := fun i h0 h1 => by
  rw [e _ _ (s2 i)]; rw [e _ _ s1] at h1; exact h i h0 h1
theorem meP_f {S : Nat → Int → Prop} {V V' : gV} {f : Nat} {C : Int} (h : meP V f C) (e : Fr S V V') (s1 : ¬ S f 12) (s2 : ∀ i, ¬ S (f + 10) i) : meP V' f C := fun i h0 h1 => by
  rw [e _ _ (s2 i)]; rw [e _ _ s1] at h1; exact h i h0 h1
theorem maP_f {S : Nat → Int → Prop} {V V' : gV} {f : Nat} {C K : Int} (h : maP V f C K) (e : Fr S V V') (s1 : ∀ i, ¬ S (f + 6) i) (s2 : ∀ i, ¬ S (f + 7) i) : maP V' f C K := fun k m h0 h1 h2 h3 => by
  rw [e _ _ (s2 _)]; rw [e _ _ (s1 _)] at h3; exact h k m h0 h1 h2 h3
section
variable {G : List gS} {R V : gV} {T : gT} {x p n f : Nat} {C D : Int}
theorem isAheadF_k (ly : lay3 G R f) {a b : Int} (ha : 0 ≤ a ∧ a < 300) (hb : 0 ≤ b ∧ b < 300) : pI 1 0 1 40 [(4, (f : Int)), (0, a), (0, b)] G R V := by
  refine c_X3_isAhead (t_X3_isAhead_0 ly ?_)
  repeat' first
    | exact ⟨0, rfl, by omega, rfl⟩
    | exact ⟨1, rfl, by omega, rfl⟩
    | omega
    | intro _
    | apply And.intro
theorem isFirst_k (t : tT G R T x p n C D) (hD : D ≤ C) (th : TH T V) {a : Int} (ha : 0 ≤ a ∧ a < C) : pI 2 0 1 42 [(0, a), (4, (x : Int))] G R V := by
  have hc := t.c0
  have ho := (t.od _ _).mp (th (x + 3) a)
  refine c_X3_isFirstOfItsHeap (t_X3_isFirstOfItsHeap_0 t.ly ?_)
  refine pool2 (f := fun q i => [some (0, a), some (4, (x : Int)), some (0, q), some (0, i)]) (Inv := fun q i => (0 ≤ q ∧ q < C) ∧ 1 ≤ i ∧ i ≤ 122) (μ := fun _ i => (122 - i).toNat) (fun q i h ih => ?_) a 1 (by omega)
  have nx := times_k (V := V) t hD th (a := q) (b := a) (by omega) ha
  exact t_X3_isFirstOfItsHeap_4 t.ly ⟨by omega, fun _ => ⟨by omega, fun _ => ⟨1, rfl, by omega, rfl⟩, fun _ => ⟨by omega, by omega, fun _ => pI_u nx (fun v hv => ⟨by omega, ih _ _ (by omega) (by omega)⟩), fun _ => ⟨by omega, fun _ => ⟨fun _ => pI_u nx (fun v hv => ⟨by omega, ih _ _ (by omega) (by omega)⟩), fun _ => ⟨0, rfl, by omega, rfl⟩⟩⟩⟩⟩⟩
theorem gatherSeeds_k (u : fT G R T f) (t : tT G R T x p n C D) (hD : D ≤ C) (th : TH T V) : cwv 3 (fun r V' => r = none ∧ TH T V' ∧ seP V' f C) 41 [(4, (f : Int)), (4, (x : Int))] G R V := by
  have hd := t.d0
  refine c_X3_gatherSeeds (t_X3_gatherSeeds_0 u.ly t.ly ?_)
  refine loop1 (f := fun a => [some (4, (f : Int)), some (4, (x : Int)), some (0, a)]) (Inv := fun a V => TH T V ∧ 1 ≤ a ∧ a ≤ 121 ∧ V f 9 ≤ a - 1 ∧ seP V f C) (μ := fun a _ => (121 - a).toNat) (fun a V h ih => ?_) 1 _ ⟨TH_wr th ((u.sd _).mpr (by omega)), by omega, by omega, by rw [wr_same]; omega, fun i h0 h1 => by rw [wr_same] at h1; omega⟩
  obtain ⟨th, h0, h1, h2, h3⟩ := h
  have c := t.ct _ (th x 1)
  have s := (u.sd _).mp (th f 9)
  have o := (t.od _ _).mp (th (x + 3) a)
  refine t_X3_gatherSeeds_7 u.ly t.ly (fun _ => ⟨by omega, fun _ => ⟨rfl, th, h3⟩, fun _ => ⟨by omega, fun _ => ?_⟩⟩)
  refine pI_u (isPowerOfPrime_c (by omega)) (fun v hv => ⟨by omega, fun _ => ⟨by omega, ih _ _ ⟨th, by omega, by omega, by omega, h3⟩ (by omega)⟩, fun _ => ?_⟩)
  refine pI_u (isFirst_k t hD th (by omega)) (fun w hw => ⟨by omega, fun _ => ⟨by omega, ih _ _ ⟨th, by omega, by omega, by omega, h3⟩ (by omega)⟩, fun _ _ => ⟨by omega, by omega, by omega, ih _ _ ⟨TH_wr (TH_wr th (u.se _ _)) ((u.sd _).mpr (by omega)), by omega, by omega, by rw [wr_same]; omega, ?_⟩ (by omega)⟩⟩)
  intro i i0 i1
  rw [wr_same] at i1
  rw [wr_a (by omega)]
  by_cases e : i = V f 9
  · rw [e, wr_same]; omega
  · rw [wr_i e]; exact h3 i i0 (by omega)
theorem fillLed_k (u : fT G R T f) (t : tT G R T x p n C D) (hD : D ≤ C) (th : TH T V) : cwv 3 (fun r V' => r = none ∧ TH T V' ∧ Fr (fun c _ => c = f + 9) V V') 43 [(4, (f : Int)), (4, (x : Int))] G R V := by
  have hd := t.d0
  have hc := t.c0
  refine c_X3_fillLed (t_X3_fillLed_0 u.ly t.ly ?_)
  refine loop1 (f := fun a => [some (4, (f : Int)), some (4, (x : Int)), some (0, a)]) (Inv := fun a V' => (TH T V' ∧ Fr (fun c _ => c = f + 9) V V') ∧ 0 ≤ a ∧ a ≤ 4) (μ := fun a _ => (4 - a).toNat) (fun a V1 h ih => ?_) 0 _ ⟨⟨th, Fr_0⟩, by omega, by omega⟩
  obtain ⟨⟨th, hf⟩, h0, h1⟩ := h
  have m := (t.mm _).mp (th x 2)
  have s := (t.st _ _).mp (th (x + 4) (a * 120))
  refine t_X3_fillLed_2 u.ly t.ly (fun _ => ⟨by omega, fun _ => ⟨rfl, th, hf⟩, fun _ => ⟨by omega, by omega, fun _ => ?_⟩⟩)
  refine loop1 (f := fun b => [some (4, (f : Int)), some (4, (x : Int)), some (0, a), some (0, V1 (x + 4) (a * 120)), some (0, b)]) (Inv := fun b V' => (TH T V' ∧ Fr (fun c _ => c = f + 9) V V') ∧ 0 ≤ b ∧ b ≤ 120) (μ := fun b _ => (120 - b).toNat) (fun b V2 h2 ih2 => ?_) 0 V1 ⟨⟨th, hf⟩, by omega, by omega⟩
  obtain ⟨⟨th, hf⟩, h2, h3⟩ := h2
  have c := t.ct _ (th x 1)
  exact t_X3_fillLed_23 u.ly t.ly (fun _ => ⟨by omega, fun _ => ⟨by omega, ih _ _ ⟨⟨th, hf⟩, by omega, by omega⟩ (by omega)⟩, fun _ => ⟨by omega, by omega, pI_u (ledBy_k t hD th s (by omega)) (fun v hv => ⟨by omega, by omega, by omega, ih2 _ _ ⟨⟨TH_wr th (u.le _ _), Fr_w hf rfl⟩, by omega, by omega⟩ (by omega)⟩)⟩⟩)
theorem startNought_k (u : fT G R T f) (th : TH T V) (hs : seP V f C) : cwv 1 (fun r V' => r = none ∧ TH T V' ∧ seP V' f C ∧ maP V' f C (V' f 5) ∧ V' f 0 = 1) 44 [(4, (f : Int))] G R V := by
  refine c_X3_startWithTurnNought (t_X3_startWithTurnNought_0 u.ly ⟨rfl, ?_, ?_, ?_, ?_⟩)
  · exact TH_wr (TH_wr (TH_wr (TH_wr (TH_wr (TH_wr (TH_wr (TH_wr th (u.lo _ _)) (u.hi _ _)) ((u.sz _ _).mpr (by omega))) (u.ki _ _)) ((u.cn _).mpr (by omega))) ((u.kh _ _).mpr (by omega))) ((u.km _ _).mpr (by omega))) ((u.kd _).mpr (by omega))
  · refine seP_f (S := fun c i => (c = f ∧ (i = 0 ∨ i = 5)) ∨ (f + 1 ≤ c ∧ c ≤ f + 6)) hs ?_ (by omega) (by omega)
    exact Fr_w (Fr_w (Fr_w (Fr_w (Fr_w (Fr_w (Fr_w (Fr_w Fr_0 (by omega)) (by omega)) (by omega)) (by omega)) (by omega)) (by omega)) (by omega)) (by omega)
  · intro k m h0 h1 h2 h3
    rw [wr_same] at h1
    rw [show k = 0 by omega, wr_a (by omega), wr_same] at h3
    omega
  · rw [wr_i (by omega), wr_a (by omega), wr_a (by omega), wr_same]
theorem addToNew_k (u : fT G R T f) (th : TH T V) {a : Int} (ha : i32 a) : cwv 1 (fun r V' => r = none ∧ TH T V' ∧ Fr (S15 f) V V') 49 [(4, (f : Int)), (0, a)] G R V :=
  c_X3_addToNew (t_X3_addToNew_0 u.ly ⟨ha, fun _ _ => ⟨rfl, TH_wr th (u.nh _), Fr_w Fr_0 (by omega)⟩, fun _ _ => ⟨rfl, TH_wr th (u.nl _), Fr_w Fr_0 (by omega)⟩⟩)
theorem addMembersTimes_k (u : fT G R T f) (t : tT G R T x p n C D) (hD : D ≤ C) (th : TH T V) (hm : meP V f C) {a : Int} (ha : 0 ≤ a ∧ a < C) : cwv 2 (fun r V' => r = none ∧ TH T V' ∧ Fr (S15 f) V V') 48 [(4, (f : Int)), (0, a), (4, (x : Int))] G R V := by
  have hc := t.c0
  refine c_X3_addMembersTimes (t_X3_addMembersTimes_0 u.ly t.ly ?_)
  refine loop1 (f := fun b => [some (4, (f : Int)), some (0, a), some (4, (x : Int)), some (0, b)]) (Inv := fun b V' => (TH T V' ∧ Fr (S15 f) V V') ∧ 0 ≤ b ∧ b ≤ 120) (μ := fun b _ => (120 - b).toNat) (fun b V1 h ih => ?_) 0 _ ⟨⟨th, Fr_0⟩, by omega, by omega⟩
  obtain ⟨⟨th, hf⟩, h0, h1⟩ := h
  have m := (u.mb _).mp (th f 12)
  have hm1 := meP_f hm hf (by omega) (by omega)
  refine t_X3_addMembersTimes_2 u.ly t.ly (fun _ => ⟨by omega, fun _ => ⟨rfl, th, hf⟩, fun hb => ⟨by omega, fun _ => ?_⟩⟩)
  refine pI_u (times_k t hD th (hm1 b h0 hb) ha) (fun v hv => cw0_u (by omega) (addToNew_k u th (by omega)) (fun V2 h2 => ⟨by omega, ih _ _ ⟨⟨h2.1, Fr_t hf h2.2⟩, by omega, by omega⟩ (by omega)⟩))
theorem gatherMembers_k (u : fT G R T f) (t : tT G R T x p n C D) (hD : D ≤ C) (th : TH T V) {a : Int} (ha : 0 ≤ a ∧ a < 300) : cwv 2 (fun r V' => r = none ∧ TH T V' ∧ meP V' f C ∧ Fr (fun c i => (c = f ∧ i = 12) ∨ c = f + 10) V V') 46 [(4, (f : Int)), (0, a), (4, (x : Int))] G R V := by
  have hd := t.d0
  refine c_X3_gatherMembers (t_X3_gatherMembers_0 u.ly t.ly ?_)
  refine loop1 (f := fun b => [some (4, (f : Int)), some (0, a), some (4, (x : Int)), some (0, b)]) (Inv := fun b V' => (TH T V' ∧ meP V' f C ∧ Fr (fun c i => (c = f ∧ i = 12) ∨ c = f + 10) V V') ∧ 0 ≤ b ∧ b ≤ 120 ∧ V' f 12 ≤ b) (μ := fun b _ => (120 - b).toNat) (fun b V1 h ih => ?_) 0 _ ⟨⟨TH_wr th ((u.mb _).mpr (by omega)), fun i i0 i1 => by rw [wr_same] at i1; omega, Fr_w Fr_0 (by simp)⟩, by omega, by omega, by rw [wr_same]; omega⟩
  obtain ⟨⟨th, hm, hf⟩, h0, h1, h2⟩ := h
  have c := t.ct _ (th x 1)
  have m := (u.mb _).mp (th f 12)
  refine t_X3_gatherMembers_7 u.ly t.ly (fun _ => ⟨by omega, fun _ => ⟨rfl, th, hm, hf⟩, fun _ => ⟨by omega, fun _ _ => ?_⟩⟩)
  refine pI_u (holds_c (by omega)) (fun v hv => ⟨by omega, fun _ => ⟨by omega, ih _ _ ⟨⟨th, hm, hf⟩, by omega, by omega, by omega⟩ (by omega)⟩, fun _ _ => ⟨by omega, by omega, by omega, ih _ _ ⟨⟨TH_wr (TH_wr th (u.me _ _)) ((u.mb _).mpr (by omega)), ?_, Fr_w (Fr_w hf (by simp)) (by simp)⟩, by omega, by omega, by rw [wr_same]; omega⟩ (by omega)⟩⟩)
  intro i i0 i1
  rw [wr_same] at i1
  rw [wr_a (by omega)]
  by_cases e : i = V1 f 12
  · rw [e, wr_same]; omega
  · rw [wr_i e]; exact hm i i0 (by omega)
theorem indexFrom_k (u : fT G R T f) (th : TH T V) {s a b : Int} (hs : 0 ≤ s ∧ s ≤ 300) (ha : i64 a) (hb : i64 b) : pI 1 (-1) 299 50 [(4, (f : Int)), (0, s), (2, a), (2, b)] G R V := by
  have c := (u.cn _).mp (th f 0)
  refine c_X3_indexFrom (t_X3_indexFrom_0 u.ly ?_)
  refine pool1 (f := fun h => [some (4, (f : Int)), none, some (2, a), none, some (2, b), none, some (0, h)]) (Inv := fun h => 0 ≤ h ∧ h ≤ 300) (μ := fun h => (300 - h).toNat) (fun h hh ih => ?_) s (by omega)
  exact t_X3_indexFrom_3 u.ly (fun _ => ⟨by omega, fun _ => ⟨-1, rfl, by omega, rfl⟩, fun _ => ⟨by omega, fun _ => ⟨ha, fun _ => ⟨by omega, ih _ (by omega) (by omega)⟩, fun _ _ => ⟨hb, fun _ => ⟨by omega, ih _ (by omega) (by omega)⟩, fun _ => ⟨h, rfl, by omega, rfl⟩⟩⟩⟩⟩)
theorem addNew_k (u : fT G R T f) (th : TH T V) : cwv 1 (fun r V' => ∃ v : Int, r = some (0, v) ∧ (0 ≤ v ∧ v ≤ 1) ∧ (v ≠ 0 → V f 0 < 300 ∧ V' f 0 = V f 0 + 1) ∧ V f 0 ≤ V' f 0 ∧ TH T V' ∧ Fr (San f) V V') 52 [(4, (f : Int))] G R V := by
  have c := (u.cn _).mp (th f 0)
  have s := (u.ns _).mp (th f 17)
  refine c_X3_addNew (t_X3_addNew_0 u.ly (fun _ => ⟨fun h => (fun _ => ⟨by omega, fun _ _ _ => ⟨by omega, 1, rfl, by omega, fun _ => ⟨h, wr_same _ _ _ _⟩, by rw [wr_same]; omega, ?_, ?_⟩⟩), fun h => ⟨0, rfl, by omega, fun q => absurd rfl q, by omega, th, Fr_0⟩⟩))
  · exact TH_wr (TH_wr (TH_wr (TH_wr (TH_wr th (u.lo _ _)) (u.hi _ _)) ((u.sz _ _).mpr (by omega))) (u.ki _ _)) ((u.cn _).mpr (by omega))
  · exact Fr_w (Fr_w (Fr_w (Fr_w (Fr_w Fr_0 (by omega)) (by omega)) (by omega)) (by omega)) (by omega)
theorem leadToNew_k (u : fT G R T f) (t : tT G R T x p n C D) (th : TH T V) {h m : Int} (hh : 0 ≤ h ∧ h < 300) (hm : 0 ≤ m ∧ m < 4) : cwv 2 (fun r V' => r = none ∧ TH T V' ∧ Fr (S15 f) V V') 54 [(4, (f : Int)), (0, h), (0, m), (4, (x : Int))] G R V := by
  have hd := t.d0
  refine c_X3_leadToNew (t_X3_leadToNew_0 u.ly t.ly ?_)
  refine loop1 (f := fun b => [some (4, (f : Int)), some (0, h), some (0, m), some (4, (x : Int)), some (0, b)]) (Inv := fun b V' => (TH T V' ∧ Fr (S15 f) V V') ∧ 0 ≤ b ∧ b ≤ 120) (μ := fun b _ => (120 - b).toNat) (fun b V1 h3 ih => ?_) 0 _ ⟨⟨TH_wr (TH_wr th (u.nl _)) (u.nh _), Fr_w (Fr_w Fr_0 (by omega)) (by omega)⟩, by omega, by omega⟩
  obtain ⟨⟨th, hf⟩, h0, h1⟩ := h3
  have c := t.ct _ (th x 1)
  refine t_X3_leadToNew_13 u.ly t.ly (fun _ => ⟨by omega, fun _ => ⟨rfl, th, hf⟩, fun _ => ⟨by omega, fun _ _ => ?_⟩⟩)
  refine pI_u (holds_c (by omega)) (fun v hv => ⟨by omega, fun _ => ⟨by omega, ih _ _ ⟨⟨th, hf⟩, by omega, by omega⟩ (by omega)⟩, fun _ => ⟨by omega, by omega, by omega, fun e => cw0_u (by omega) (addToNew_k u th e) (fun V2 h2 => ⟨by omega, ih _ _ ⟨⟨h2.1, Fr_t hf h2.2⟩, by omega, by omega⟩ (by omega)⟩)⟩⟩)
theorem keepMakersF_k (u : fT G R T f) (th : TH T V) {k a : Int} (hk : 0 ≤ k ∧ k < V f 5) (h3 : V f 5 < 300) (ha : 0 ≤ a ∧ a < C) (hC : C ≤ 120) (hm : maP V f C (V f 5)) : cwv 1 (fun r V' => r = none ∧ TH T V' ∧ maP V' f C (V f 5 + 1) ∧ Fr (fun c _ => c = f + 6 ∨ c = f + 7) V V') 53 [(4, (f : Int)), (0, k), (0, a)] G R V := by
  refine c_X3_keepMakers (t_X3_keepMakers_0 u.ly ?_)
  refine loop1 (f := fun b => [some (4, (f : Int)), some (0, k), some (0, a), some (0, b)]) (Inv := fun b V' => (TH T V' ∧ maP V' f C (V f 5) ∧ Fr (fun c _ => c = f + 7) V V') ∧ 0 ≤ b ∧ b ≤ 7 ∧ ∀ m, 0 ≤ m → m < b → 0 ≤ V' (f + 7) (V f 5 * 8 + m) ∧ V' (f + 7) (V f 5 * 8 + m) < C) (μ := fun b _ => (7 - b).toNat) (fun b V1 h ih => ?_) 0 _ ⟨⟨th, hm, Fr_0⟩, by omega, by omega, fun m m0 m1 => by omega⟩
  obtain ⟨⟨th, hm, hf⟩, h0, h1, h2⟩ := h
  have e5 : V1 f 5 = V f 5 := hf _ _ (by omega)
  have w := (u.km _ _).mp (th (f + 6) k)
  have fin : TH T (wr (wr V1 (f + 7) (V1 f 5 * 8 + b) a) (f + 6) (V1 f 5) (b + 1)) ∧ maP (wr (wr V1 (f + 7) (V1 f 5 * 8 + b) a) (f + 6) (V1 f 5) (b + 1)) f C (V f 5 + 1) ∧ Fr (fun c _ => c = f + 6 ∨ c = f + 7) V (wr (wr V1 (f + 7) (V1 f 5 * 8 + b) a) (f + 6) (V1 f 5) (b + 1)) := by
    refine ⟨TH_wr (TH_wr th (u.ma _ _)) ((u.km _ _).mpr (by omega)), ?_, Fr_w (Fr_w (Fr_m hf (by omega)) (by simp)) (by simp)⟩
    intro k' m' q0 q1 q2 q3
    rw [wr_a (by omega)]
    by_cases e : k' = V f 5
    · rw [e, e5, wr_same] at q3
      rw [e, e5]
      by_cases e2 : m' = b
      · rw [e2, wr_same]; omega
      · rw [wr_i (by omega)]; exact h2 m' q2 (by omega)
    · rw [wr_i (by omega), wr_a (by omega)] at q3
      have w8 := (u.km _ _).mp (th (f + 6) k')
      rw [wr_i (by omega)]
      exact hm k' m' q0 (by omega) q2 q3
  refine t_X3_keepMakers_2 u.ly ⟨by omega, fun _ => ⟨by omega, fun _ _ => ⟨by omega, by omega, by omega, by omega, by omega, by omega, rfl, fin⟩, fun hb => ⟨fun _ _ => ⟨by omega, by omega, by omega, by omega, by omega, by omega, rfl, fin⟩, fun _ _ => ⟨by omega, by omega, by omega, by omega, by omega, fun _ => ⟨by omega, by omega, ih _ _ ⟨⟨TH_wr th (u.ma _ _), ?_, Fr_w hf rfl⟩, by omega, by omega, ?_⟩ (by omega)⟩⟩⟩⟩⟩
  · intro k' m' q0 q1 q2 q3
    rw [wr_a (by omega)] at q3
    have w8 := (u.km _ _).mp (th (f + 6) k')
    rw [wr_i (by omega)]
    exact hm k' m' q0 q1 q2 q3
  · intro m m0 m1
    rw [e5]
    by_cases e2 : m = b
    · rw [e2, wr_same]; exact hm k b hk.1 hk.2 h0 hb
    · rw [wr_i (by omega)]; exact h2 m m0 (by omega)
end
