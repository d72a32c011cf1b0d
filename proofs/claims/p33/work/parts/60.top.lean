/-! the class's calls -/
def cT (G : List gS) (R : gV) (T : gT) (B b g p n : Nat) (C D : Int) (o m : Nat) (E : Int) : Prop := (lay7 G R B) ∧ (R B 6 = (b : Int)) ∧ (bG G R T b g p n C D o m E) ∧ (kT G R T (B + 15)) ∧ (∀ v, T B 7 v)
theorem cT.ly {G : List gS} {R : gV} {T : gT} {B b g p n : Nat} {C D : Int} {o m : Nat} {E : Int} (h : cT G R T B b g p n C D o m E) : lay7 G R B := h.1
theorem cT.rb {G : List gS} {R : gV} {T : gT} {B b g p n : Nat} {C D : Int} {o m : Nat} {E : Int} (h : cT G R T B b g p n C D o m E) : R B 6 = (b : Int) := h.2.1
theorem cT.u {G : List gS} {R : gV} {T : gT} {B b g p n : Nat} {C D : Int} {o m : Nat} {E : Int} (h : cT G R T B b g p n C D o m E) : bG G R T b g p n C D o m E := h.2.2.1
theorem cT.k {G : List gS} {R : gV} {T : gT} {B b g p n : Nat} {C D : Int} {o m : Nat} {E : Int} (h : cT G R T B b g p n C D o m E) : kT G R T (B + 15) := h.2.2.2.1
theorem cT.re {G : List gS} {R : gV} {T : gT} {B b g p n : Nat} {C D : Int} {o m : Nat} {E : Int} (h : cT G R T B b g p n C D o m E) : ∀ v, T B 7 v := h.2.2.2.2
theorem cT.mk {G : List gS} {R : gV} {T : gT} {B b g p n : Nat} {C D : Int} {o m : Nat} {E : Int} (h_ly : lay7 G R B) (h_rb : R B 6 = (b : Int)) (h_u : bG G R T b g p n C D o m E) (h_k : kT G R T (B + 15)) (h_re : ∀ v, T B 7 v) : cT G R T B b g p n C D o m E := ⟨h_ly, h_rb, h_u, h_k, h_re⟩
abbrev eI (T : gT) (d : Nat) (x : Int) (y : Nat) (as : List zV) (G : List gS) (R V : gV) : Prop := cwv d (fun r V' => ∃ q : Int, r = some (0, q) ∧ q = x ∧ TH T V') y as G R V
abbrev pX (d : Nat) (Φ : Int → Prop) (y : Nat) (as : List zV) (G : List gS) (R V : gV) : Prop := cwv d (fun r V' => ∃ q : Int, r = some (0, q) ∧ Φ q ∧ V' = V) y as G R V
abbrev oI (T : gT) (y : Nat) (as : List zV) (G : List gS) (R V : gV) : Prop := wI T 8 (-2147483648) 2147483647 y as G R V
abbrev oJ (T : gT) (y : Nat) (as : List zV) (G : List gS) (R V : gV) : Prop := wJ T 8 y as G R V
theorem bi_nz {p : Prop} (h : ¬ bi p = 0) : p := by
  rcases bi_01 p with z | z
  · exact absurd z h
  · exact bi_1.mp z
section
variable {d d2 : Nat} {y : Nat} {as : List zV} {G : List gS} {R V : gV} {T : gT}
theorem eI_u {x : Int} {X : Int → gV → Prop} (w : eI T d x y as G R V) (z : ∀ V', TH T V' → X x V') (hd : d ≤ d2 := by omega) : cwv d2 (fun r V' => ∃ v' : Int, r = some (0, v') ∧ X v' V') y as G R V := cwv_mono hd w (fun r V' h => by obtain ⟨v, h1, h2, h3⟩ := h; exact ⟨v, h1, by rw [h2]; exact z V' h3⟩)
theorem pX_u {Φ : Int → Prop} {X : Int → gV → Prop} (w : pX d Φ y as G R V) (z : ∀ v, Φ v → X v V) (hd : d ≤ d2 := by omega) : cwv d2 (fun r V' => ∃ v' : Int, r = some (0, v') ∧ X v' V') y as G R V := cwv_mono hd w (fun r V' h => by obtain ⟨v, h1, h2, h3⟩ := h; rw [h3]; exact ⟨v, h1, z v h2⟩)
end
section
variable {G : List gS} {R V : gV} {T : gT} {B b g p n o m : Nat} {C D E : Int}
theorem refuse_k (ly : lay7 G R B) (re : ∀ v, T B 7 v) (th : TH T V) {a : Int} (ha : i32 a) : eI T 1 a 138 [(4, (B : Int)), (0, a)] G R V :=
  c_X7_refuse (t_X7_refuse_0 ly ⟨ha, a, rfl, rfl, TH_wr th (re _)⟩)
theorem accept_k (ly : lay7 G R B) (re : ∀ v, T B 7 v) (th : TH T V) {a : Int} : eI T 1 a 139 [(4, (B : Int)), (0, a)] G R V :=
  c_X7_accept (t_X7_accept_0 ly ⟨a, rfl, rfl, TH_wr th (re _)⟩)
theorem rfI (u : cT G R T B b g p n C D o m E) (th : TH T V) {d : Nat} {a : Int} (ha : i32 a) (hd : 1 ≤ d := by omega) : cwv d (fun r V' => ∃ v : Int, r = some (0, v) ∧ ∃ q : Int, some (0, v) = some ((0 : Nat), q) ∧ ((-2147483648 ≤ q ∧ q ≤ 2147483647) ∧ TH T V')) 138 [(4, (B : Int)), (0, a)] G R V := eI_u (refuse_k u.ly u.re th ha) (fun V' h => ⟨_, rfl, ha, h⟩)
theorem acI (u : cT G R T B b g p n C D o m E) (th : TH T V) {d : Nat} {a : Int} (ha : i32 a) (hd : 1 ≤ d := by omega) : cwv d (fun r V' => ∃ v : Int, r = some (0, v) ∧ ∃ q : Int, some (0, v) = some ((0 : Nat), q) ∧ ((-2147483648 ≤ q ∧ q ≤ 2147483647) ∧ TH T V')) 139 [(4, (B : Int)), (0, a)] G R V := eI_u (accept_k u.ly u.re th) (fun V' h => ⟨_, rfl, ha, h⟩)
theorem rfJ (u : cT G R T B b g p n C D o m E) (th : TH T V) {d : Nat} {a : Int} (ha : i32 a) (hd : 1 ≤ d := by omega) : cwv d (fun r V' => ∃ v : Int, r = some (0, v) ∧ (i32 v ∧ ∃ q : Int, some (2, v) = some ((2 : Nat), q) ∧ (i64 q ∧ TH T V'))) 138 [(4, (B : Int)), (0, a)] G R V := eI_u (refuse_k u.ly u.re th ha) (fun V' h => ⟨ha, _, rfl, i32_64 ha, h⟩)
theorem isAct_k (u : cT G R T B b g p n C D o m E) {a : Int} (ha : i32 a) : pX 2 (fun v => (0 ≤ v ∧ v ≤ 1) ∧ (¬ v = 0 → 0 ≤ a ∧ a < 8)) 142 [(4, (B : Int)), (0, a)] G R V := by
  refine c_X7_isAct (t_X7_isAct_0 u.ly (bI_u (isActNumber_c ha) ⟨bi32 _, fun _ => ⟨0, rfl, ⟨by omega, fun q => absurd rfl q⟩, rfl⟩, fun h => ?_⟩))
  have hb := bi_nz h
  exact ⟨b, ⟨u.rb, u.u.b.ly⟩, hb, fun _ => ⟨fun _ => ⟨0, rfl, ⟨by omega, fun q => absurd rfl q⟩, rfl⟩, fun _ => ⟨1, rfl, ⟨by omega, fun _ => hb⟩, rfl⟩⟩⟩
theorem keepMade_k (u : cT G R T B b g p n C D o m E) (th : TH T V) {a : Int} (ha : 0 ≤ a ∧ a < 8) : wJ T 3 143 [(4, (B : Int)), (0, a)] G R V :=
  c_X7_keepMade (t_X7_keepMade_0 u.ly ⟨b, ⟨u.rb, u.u.b.ly⟩, w0_u (keep_k u.u u.k th ha) (fun V1 h1 => pJ_u (placesOf_k u.u.b.ly ha) (fun v hv => ⟨v, rfl, hv, TH_wr h1 (u.re _)⟩))⟩)
theorem kmJ (u : cT G R T B b g p n C D o m E) (th : TH T V) {d : Nat} {a : Int} (ha : 0 ≤ a ∧ a < 8) (hd : 3 ≤ d := by omega) : cwv d (fun r V' => ∃ v : Int, r = some (2, v) ∧ ∃ q : Int, some (2, v) = some ((2 : Nat), q) ∧ (i64 q ∧ TH T V')) 143 [(4, (B : Int)), (0, a)] G R V := wJ_u (keepMade_k u th ha) (fun v V' hv h => ⟨v, rfl, hv, h⟩)
theorem count_k (u : cT G R T B b g p n C D o m E) (th : TH T V) {a : Int} (ha : i32 a) : oI T 106 [(4, (B : Int)), (0, a)] G R V :=
  c_X7_count (t_X7_count_0 u.ly ⟨ha, fun _ => ⟨_, rfl, by omega, th⟩, fun _ => ⟨b, ⟨u.rb, u.u.b.ly⟩, g, ⟨u.u.rg, u.u.g.ly⟩, fun e => ⟨_, rfl, e, th⟩⟩, fun _ => ⟨b, ⟨u.rb, u.u.b.ly⟩, g, ⟨u.u.rg, u.u.g.ly⟩, fun e => ⟨_, rfl, e, th⟩⟩, fun _ => ⟨b, ⟨u.rb, u.u.b.ly⟩, g, ⟨u.u.rg, u.u.g.ly⟩, fun e => ⟨_, rfl, e, th⟩⟩, fun _ => ⟨b, ⟨u.rb, u.u.b.ly⟩, g, ⟨u.u.rg, u.u.g.ly⟩, fun e => ⟨_, rfl, e, th⟩⟩, fun _ => ⟨b, ⟨u.rb, u.u.b.ly⟩, pI_u (actsThere_k u.u.b.ly) (fun v hv => ⟨v, rfl, by omega, th⟩)⟩, fun _ => ⟨b, ⟨u.rb, u.u.b.ly⟩, fun e => ⟨_, rfl, e, th⟩⟩⟩)
theorem turn_k (u : cT G R T B b g p n C D o m E) (th : TH T V) {a c : Int} (ha : i32 a) (hc : i32 c) : oI T 107 [(4, (B : Int)), (0, a), (0, c)] G R V := by
  have d0 := u.u.g.t.d0
  have ct := u.u.g.t.ct _ (th (g + 1) 1)
  have pl := (u.u.g.t.pl _).mp (th (g + 1) 0)
  refine c_X7_turn (t_X7_turn_0 u.ly ⟨b, ⟨u.rb, u.u.b.ly⟩, g, ⟨u.u.rg, u.u.g.ly⟩, bI_u (isTurn_k u.u.g.t.ly ha) ⟨bi32 _, fun _ => ⟨_, rfl, by omega, th⟩, fun h => ?_⟩⟩)
  have hb := bi_nz h
  exact ⟨hc, fun _ => ⟨_, rfl, by omega, th⟩, fun _ _ => ⟨fun _ => ⟨by omega, fun _ => pI_u (whereTo_c (by omega)) (fun v hv => ⟨v, rfl, by omega, th⟩)⟩, fun _ => ⟨_, rfl, by omega, th⟩⟩⟩
theorem product_k (u : cT G R T B b g p n C D o m E) (th : TH T V) {a c : Int} (ha : i32 a) (hc : i32 c) : oI T 108 [(4, (B : Int)), (0, a), (0, c)] G R V := by
  have c0 := u.u.g.t.c0
  have hD := u.u.hD
  have ct := u.u.g.t.ct _ (th (g + 1) 1)
  refine c_X7_product (t_X7_product_0 u.ly ⟨b, ⟨u.rb, u.u.b.ly⟩, g, ⟨u.u.rg, u.u.g.ly⟩, bI_u (isTurn_k u.u.g.t.ly ha) ⟨bi32 _, fun _ => ⟨_, rfl, by omega, th⟩, fun h => bI_u (isTurn_k u.u.g.t.ly hc) ⟨bi32 _, fun _ => ⟨_, rfl, by omega, th⟩, fun h2 => ?_⟩⟩⟩)
  have hb := bi_nz h
  have hb2 := bi_nz h2
  exact pI_u (times_k u.u.g.t hD th (by omega) (by omega)) (fun v hv => ⟨v, rfl, by omega, th⟩)
theorem ofTurn_k (u : cT G R T B b g p n C D o m E) (th : TH T V) {a c : Int} (ha : i32 a) (hc : i32 c) : oI T 109 [(4, (B : Int)), (0, a), (0, c)] G R V := by
  have c0 := u.u.g.t.c0
  have hD := u.u.hD
  have ct := u.u.g.t.ct _ (th (g + 1) 1)
  refine c_X7_ofTurn (t_X7_ofTurn_0 u.ly ⟨b, ⟨u.rb, u.u.b.ly⟩, g, ⟨u.u.rg, u.u.g.ly⟩, bI_u (isTurn_k u.u.g.t.ly ha) ⟨bi32 _, fun h => ?_, fun _ => ⟨_, rfl, by omega, th⟩⟩⟩)
  have hb := bi_nz h
  exact ⟨hc, fun _ => ⟨_, rfl, by omega, th⟩, fun _ => ⟨by omega, fun e => ⟨_, rfl, e, th⟩⟩, fun _ => ⟨by omega, fun e => ⟨_, rfl, e, th⟩⟩, fun _ => ⟨by omega, fun e => ⟨_, rfl, e, th⟩⟩, fun _ => pI_u (kinOf_k u.u.g.t hD th (by omega)) (fun v hv => ⟨v, rfl, by omega, th⟩)⟩
theorem has_k (u : cT G R T B b g p n C D o m E) (th : TH T V) {a c : Int} (ha : i32 a) (hc : i32 c) : oI T 111 [(4, (B : Int)), (0, a), (0, c)] G R V := by
  have cn := u.u.g.h.a.cn _ (th (g + 10) 0)
  refine c_X7_has (t_X7_has_0 u.ly ⟨b, ⟨u.rb, u.u.b.ly⟩, g, ⟨u.u.rg, u.u.g.ly⟩, bI_u (isHeap_k u.u.g.h.a.ly ha) ⟨bi32 _, fun _ => ⟨_, rfl, by omega, th⟩, fun h => bI_u (isTurn_k u.u.g.t.ly hc) ⟨bi32 _, fun h2 => ?_, fun _ => ⟨_, rfl, by omega, th⟩⟩⟩⟩)
  have hb := bi_nz h
  exact pI_u (holdsTurn_k u.u.g.h.a (by omega) hc) (fun v hv => ⟨by omega, fun _ => ⟨_, rfl, by omega, th⟩, fun _ => ⟨_, rfl, by omega, th⟩⟩)
theorem join_k (u : cT G R T B b g p n C D o m E) (th : TH T V) {a c e : Int} (ha : i32 a) (hc : i32 c) (he : i32 e) : oI T 112 [(4, (B : Int)), (0, a), (0, c), (0, e)] G R V := by
  have cn := u.u.g.h.a.cn _ (th (g + 10) 0)
  refine c_X7_join (t_X7_join_0 u.ly ⟨b, ⟨u.rb, u.u.b.ly⟩, g, ⟨u.u.rg, u.u.g.ly⟩, bI_u (isHeap_k u.u.g.h.a.ly ha) ⟨bi32 _, fun _ => ⟨_, rfl, by omega, th⟩, fun h => bI_u (isHeap_k u.u.g.h.a.ly hc) ⟨bi32 _, fun _ => ⟨_, rfl, by omega, th⟩, fun h2 => pI_u (isWay_c he) (fun v hv => ⟨by omega, fun _ => ?_, fun _ => ⟨_, rfl, by omega, th⟩⟩)⟩⟩⟩)
  have hb := bi_nz h
  have hb2 := bi_nz h2
  exact ⟨he, fun _ => ⟨by omega, fun _ => ⟨by omega, fun _ _ _ => pI_u (leastOver_k u.u.g.h.a th) (fun v hv => ⟨v, rfl, by omega, th⟩)⟩⟩, fun _ => ⟨by omega, fun _ => ⟨by omega, fun _ _ _ => pI_u (indexOf_k u.u.g.h.a th (t64 _) (t64 _)) (fun v hv => ⟨v, rfl, by omega, th⟩)⟩⟩⟩
theorem ofClass_k (u : cT G R T B b g p n C D o m E) (th : TH T V) {a c : Int} (ha : i32 a) (hc : i32 c) : oI T 113 [(4, (B : Int)), (0, a), (0, c)] G R V := by
  have cl := u.u.g.h.a.cl _ (th (g + 10) 1)
  refine c_X7_ofClass (t_X7_ofClass_0 u.ly ⟨b, ⟨u.rb, u.u.b.ly⟩, g, ⟨u.u.rg, u.u.g.ly⟩, bI_u (isClass_k u.u.g.h.a.ly ha) ⟨bi32 _, fun h => ?_, fun _ => ⟨_, rfl, by omega, th⟩⟩⟩)
  have hb := bi_nz h
  exact ⟨hc, fun _ => ⟨_, rfl, by omega, th⟩, fun _ => pI_u (sizeInClass_k u.u.g.h.a th (by omega)) (fun v hv => ⟨v, rfl, by omega, th⟩), fun _ => ⟨by omega, fun e => ⟨_, rfl, e, th⟩⟩, fun _ => ⟨by omega, fun e => ⟨_, rfl, e, th⟩⟩⟩
theorem within_k (u : cT G R T B b g p n C D o m E) (th : TH T V) {a c e : Int} (ha : i32 a) (hc : i32 c) (he : i32 e) : oI T 114 [(4, (B : Int)), (0, a), (0, c), (0, e)] G R V := by
  have cl := u.u.g.h.cE _ (th (g + 10) 1)
  refine c_X7_within (t_X7_within_0 u.ly ⟨b, ⟨u.rb, u.u.b.ly⟩, g, ⟨u.u.rg, u.u.g.ly⟩, bI_u (isClass_k u.u.g.h.a.ly ha) ⟨bi32 _, fun _ => ⟨_, rfl, by omega, th⟩, fun h => bI_u (isClass_k u.u.g.h.a.ly hc) ⟨bi32 _, fun _ => ⟨_, rfl, by omega, th⟩, fun h2 => pI_u (isWay_c he) (fun v hv => ⟨by omega, fun _ => ?_, fun _ => ⟨_, rfl, by omega, th⟩⟩)⟩⟩⟩)
  have hb := bi_nz h
  have hb2 := bi_nz h2
  exact ⟨he, fun _ => pI_u (above_k u.u.g.h th (by omega) (by omega)) (fun v hv => ⟨v, rfl, by omega, th⟩), fun _ => pI_u (below_k u.u.g.h th (by omega) (by omega)) (fun v hv => ⟨v, rfl, by omega, th⟩)⟩
theorem table_k (u : cT G R T B b g p n C D o m E) (th : TH T V) {a c : Int} (ha : i32 a) (hc : i32 c) : oI T 115 [(4, (B : Int)), (0, a), (0, c)] G R V := by
  have cl := u.u.g.h.cE _ (th (g + 10) 1)
  refine c_X7_table (t_X7_table_0 u.ly ⟨b, ⟨u.rb, u.u.b.ly⟩, g, ⟨u.u.rg, u.u.g.ly⟩, bI_u (isClass_k u.u.g.h.a.ly ha) ⟨bi32 _, fun _ => ⟨_, rfl, by omega, th⟩, fun h => bI_u (isClass_k u.u.g.h.a.ly hc) ⟨bi32 _, fun _ => ⟨_, rfl, by omega, th⟩, fun h2 => ?_⟩⟩⟩)
  have hb := bi_nz h
  have hb2 := bi_nz h2
  exact pI_u (markOn_k u.u.g.h th (by omega) (by omega)) (fun v hv => ⟨v, rfl, by omega, th⟩)
theorem simple_k (u : cT G R T B b g p n C D o m E) (th : TH T V) : oI T 118 [(4, (B : Int))] G R V :=
  c_X7_simple (t_X7_simple_0 u.ly ⟨b, ⟨u.rb, u.u.b.ly⟩, g, ⟨u.u.rg, u.u.g.ly⟩, pI_u (countNormal_k u.u.g.h.a th) (fun v hv => ⟨by omega, fun _ => ⟨_, rfl, by omega, th⟩, fun _ => ⟨_, rfl, by omega, th⟩⟩)⟩)
theorem coset_k (u : cT G R T B b g p n C D o m E) (th : TH T V) {a c : Int} (ha : i32 a) (hc : i32 c) : oJ T 119 [(4, (B : Int)), (0, a), (0, c)] G R V := by
  have cl := u.u.g.h.cE _ (th (g + 10) 1)
  refine c_X7_coset (t_X7_coset_0 u.ly (bI_u (isActNumber_c ha) ⟨bi32 _, fun h => ⟨b, ⟨u.rb, u.u.b.ly⟩, g, ⟨u.u.rg, u.u.g.ly⟩, bI_u (isClass_k u.u.g.h.a.ly hc) ⟨bi32 _, fun h2 => ?_, fun _ => rfJ u th (by omega)⟩⟩, fun _ => rfJ u th (by omega)⟩))
  have hb := bi_nz h
  have hb2 := bi_nz h2
  exact w0_u (takeCoset_k u.k u.u.g.h th (by omega)) (fun V1 h1 => kmJ u h1 hb)
theorem places_k (u : cT G R T B b g p n C D o m E) (th : TH T V) {a c e : Int} (ha : i32 a) (hc : i32 c) (he : i32 e) : oJ T 120 [(4, (B : Int)), (0, a), (0, c), (0, e)] G R V := by
  have pl := (u.u.g.t.pl _).mp (th (g + 1) 0)
  refine c_X7_places (t_X7_places_0 u.ly (bI_u (isActNumber_c ha) ⟨bi32 _, fun _ => rfJ u th (by omega), fun h => ⟨hc, fun _ => rfJ u th (by omega), fun _ => ⟨b, ⟨u.rb, u.u.b.ly⟩, g, ⟨u.u.rg, u.u.g.ly⟩, fun _ => ⟨fun _ => rfJ u th (by omega), fun _ => pI_u (isWay_c he) (fun v hv => ⟨by omega, fun _ => ?_, fun _ => rfJ u th (by omega)⟩)⟩⟩⟩⟩))
  exact w0_u (takePlaces_k u.k u.u.g th (by omega) he) (fun V1 h1 => kmJ u h1 (bi_nz h))
theorem heaps_k (u : cT G R T B b g p n C D o m E) (th : TH T V) {a : Int} (ha : i32 a) : oJ T 121 [(4, (B : Int)), (0, a)] G R V :=
  c_X7_heaps (t_X7_heaps_0 u.ly (bI_u (isActNumber_c ha) ⟨bi32 _, fun h => ⟨b, ⟨u.rb, u.u.b.ly⟩, g, ⟨u.u.rg, u.u.g.ly⟩, w0_u (takeHeaps_k u.k u.u.g u.u.hD th) (fun V1 h1 => kmJ u h1 (bi_nz h))⟩, fun _ => rfJ u th (by omega)⟩))
theorem both_k (u : cT G R T B b g p n C D o m E) (th : TH T V) {a c e f : Int} (ha : i32 a) (hc : i32 c) (he : i32 e) (hf : i32 f) : oJ T 122 [(4, (B : Int)), (0, a), (0, c), (0, e), (0, f)] G R V := by
  refine c_X7_both (t_X7_both_0 u.ly (bI_u (isActNumber_c ha) ⟨bi32 _, fun _ => rfJ u th (by omega), fun h => pI_u (isWay_c hf) (fun v hv => ⟨by omega, fun _ => pX_u (isAct_k u hc) (fun v1 h1 => ⟨by omega, fun _ => rfJ u th (by omega), fun z1 => pX_u (isAct_k u he) (fun v2 h2 => ⟨by omega, fun z2 => ⟨hf, fun _ => ⟨b, ⟨u.rb, u.u.b.ly⟩, ?_⟩, fun _ => ⟨b, ⟨u.rb, u.u.b.ly⟩, ?_⟩⟩, fun _ => rfJ u th (by omega)⟩)⟩), fun _ => rfJ u th (by omega)⟩)⟩))
  · have a1 := h1.2 z1
    have a2 := h2.2 z2
    exact pJ_u (placesOf_k u.u.b.ly a1) (fun w hw => pJ_u (placesOf_k u.u.b.ly a2) (fun w2 hw2 => pJ_u (timesUpTo_c hw hw2) (fun w3 hw3 => ⟨hw3, fun _ => w0_u (takePairs_k u.k u.u th a1 a2) (fun V1 q1 => kmJ u q1 (bi_nz h)), fun _ => rfJ u th (by omega)⟩)))
  · have a1 := h1.2 z1
    have a2 := h2.2 z2
    exact pJ_u (placesOf_k u.u.b.ly a1) (fun w hw => pJ_u (placesOf_k u.u.b.ly a2) (fun w2 hw2 => ⟨fun _ => w0_u (takeSum_k u.k u.u th a1 a2) (fun V1 q1 => kmJ u q1 (bi_nz h)), fun _ => rfJ u th (by omega)⟩))
theorem colour_k (u : cT G R T B b g p n C D o m E) (th : TH T V) {a c e : Int} (ha : i32 a) (hc : i32 c) (he : i32 e) : oJ T 123 [(4, (B : Int)), (0, a), (0, c), (0, e)] G R V := by
  refine c_X7_colour (t_X7_colour_0 u.ly (bI_u (isActNumber_c ha) ⟨bi32 _, fun _ => rfJ u th (by omega), fun h => ⟨he, fun _ => rfJ u th (by omega), fun _ => ⟨fun _ => pX_u (isAct_k u hc) (fun v1 h1 => ⟨by omega, fun z1 => ⟨b, ⟨u.rb, u.u.b.ly⟩, ?_⟩, fun _ => rfJ u th (by omega)⟩), fun _ => rfJ u th (by omega)⟩⟩⟩))
  have a1 := h1.2 z1
  exact pJ_u (placesOf_k u.u.b.ly a1) (fun w hw => pJ_u (powerUpTo_c (i32_64 he) hw) (fun w3 hw3 => ⟨hw3, fun _ => w0_u (takeColourings_k u.k u.u th a1 he) (fun V1 q1 => kmJ u q1 (bi_nz h)), fun _ => rfJ u th (by omega)⟩))
theorem many_k (u : cT G R T B b g p n C D o m E) (th : TH T V) {a c e : Int} (ha : i32 a) (hc : i32 c) (he : i32 e) : oJ T 124 [(4, (B : Int)), (0, a), (0, c), (0, e)] G R V := by
  refine c_X7_many (t_X7_many_0 u.ly (bI_u (isActNumber_c ha) ⟨bi32 _, fun _ => rfJ u th (by omega), fun h => ⟨he, fun _ => rfJ u th (by omega), fun _ => ⟨fun _ => pX_u (isAct_k u hc) (fun v1 h1 => ⟨by omega, fun z1 => ⟨b, ⟨u.rb, u.u.b.ly⟩, ?_⟩, fun _ => rfJ u th (by omega)⟩), fun _ => rfJ u th (by omega)⟩⟩⟩))
  have a1 := h1.2 z1
  exact pJ_u (placesOf_k u.u.b.ly a1) (fun w hw => pJ_u (timesUpTo_c hw (i32_64 he)) (fun w3 hw3 => ⟨hw3, fun _ => w0_u (takeMultiple_k u.k u.u th a1 he) (fun V1 q1 => kmJ u q1 (bi_nz h)), fun _ => rfJ u th (by omega)⟩))
theorem parts_k (u : cT G R T B b g p n C D o m E) (th : TH T V) {a c : Int} (ha : i32 a) (hc : i32 c) : oJ T 125 [(4, (B : Int)), (0, a), (0, c)] G R V := by
  have cl := u.u.g.h.a.cl _ (th (g + 10) 1)
  refine c_X7_parts (t_X7_parts_0 u.ly (pX_u (isAct_k u ha) (fun v1 h1 => ⟨by omega, fun _ => ⟨_, rfl, by omega, th⟩, fun z1 => ⟨b, ⟨u.rb, u.u.b.ly⟩, g, ⟨u.u.rg, u.u.g.ly⟩, bI_u (isClass_k u.u.g.h.a.ly hc) ⟨bi32 _, fun _ => ⟨_, rfl, by omega, th⟩, fun z2 => ?_⟩⟩⟩)))
  have hb := bi_nz z2
  exact pJ_u (partOf_k u.u.b.ly (h1.2 z1) (by omega)) (fun v hv => ⟨v, rfl, hv, th⟩)
theorem mark_k (u : cT G R T B b g p n C D o m E) (th : TH T V) {a c : Int} (ha : i32 a) (hc : i32 c) : oJ T 126 [(4, (B : Int)), (0, a), (0, c)] G R V := by
  have cl := u.u.g.h.a.cl _ (th (g + 10) 1)
  refine c_X7_mark (t_X7_mark_0 u.ly (pX_u (isAct_k u ha) (fun v1 h1 => ⟨by omega, fun _ => ⟨_, rfl, by omega, th⟩, fun z1 => ⟨b, ⟨u.rb, u.u.b.ly⟩, g, ⟨u.u.rg, u.u.g.ly⟩, bI_u (isClass_k u.u.g.h.a.ly hc) ⟨bi32 _, fun _ => ⟨_, rfl, by omega, th⟩, fun z2 => ?_⟩⟩⟩)))
  have hb := bi_nz z2
  exact pJ_u (markOf_k u.u.b.ly (h1.2 z1) (by omega)) (fun v hv => ⟨v, rfl, hv, th⟩)
theorem act_k (u : cT G R T B b g p n C D o m E) (th : TH T V) {a c e : Int} (ha : i32 a) (hc : i32 c) (he : i32 e) : oJ T 127 [(4, (B : Int)), (0, a), (0, c), (0, e)] G R V := by
  have c0 := u.u.g.t.c0
  have d0 := u.u.g.t.d0
  have ct := u.u.g.t.ct _ (th (g + 1) 1)
  have cn := u.u.g.h.a.cn _ (th (g + 10) 0)
  have mb := (u.u.g.h.a.mb _ _).mp (th (g + 10 + 5) e)
  refine c_X7_act (t_X7_act_0 u.ly (pX_u (isAct_k u ha) (fun v1 h1 => ⟨by omega, fun z1 => ⟨b, ⟨u.rb, u.u.b.ly⟩, g, ⟨u.u.rg, u.u.g.ly⟩, hc, fun _ => ⟨_, rfl, by omega, th⟩, ?_⟩, fun _ => ⟨_, rfl, by omega, th⟩⟩)))
  have a1 := h1.2 z1
  refine ⟨fun _ => pJ_u (placesOf_k u.u.b.ly a1) (fun v hv => ⟨v, rfl, hv, th⟩), fun _ => pJ_u (allParts_k u.u th a1) (fun v hv => ⟨v, rfl, hv, th⟩), fun _ => pI_u (idleHeap_k u.u th a1) (fun v hv => ⟨by omega, v, rfl, by omega, th⟩), fun _ => bI_u (isTurn_k u.u.g.t.ly he) ⟨bi32 _, fun _ => ⟨_, rfl, by omega, th⟩, fun z2 => ?_⟩, fun _ => bI_u (isTurn_k u.u.g.t.ly he) ⟨bi32 _, fun _ => ⟨_, rfl, by omega, th⟩, fun z2 => ?_⟩, fun _ => bI_u (isHeap_k u.u.g.h.a.ly he) ⟨bi32 _, fun _ => ⟨_, rfl, by omega, th⟩, fun z2 => ?_⟩⟩
  · have hb := bi_nz z2
    exact pJ_u (leftByTurn_k u.u th a1 (by omega)) (fun v hv => ⟨v, rfl, hv, th⟩)
  · have hb := bi_nz z2
    exact ⟨by omega, fun _ => pJ_u (roundsOf_k u.u th a1 mb) (fun v hv => ⟨v, rfl, hv, th⟩)⟩
  · have hb := bi_nz z2
    exact pJ_u (roundsOf_k u.u th a1 (by omega)) (fun v hv => ⟨v, rfl, hv, th⟩)
theorem same_k (u : cT G R T B b g p n C D o m E) (th : TH T V) {a c : Int} (ha : i32 a) (hc : i32 c) : oI T 128 [(4, (B : Int)), (0, a), (0, c)] G R V :=
  c_X7_same (t_X7_same_0 u.ly (pX_u (isAct_k u ha) (fun v1 h1 => ⟨by omega, fun _ => rfI u th (by omega), fun z1 => pX_u (isAct_k u hc) (fun v2 h2 => ⟨by omega, fun z2 => ⟨b, ⟨u.rb, u.u.b.ly⟩, pI_u (firstDifference_k u.u th (h1.2 z1) (h2.2 z2)) (fun v hv => acI u th (by omega))⟩, fun _ => rfI u th (by omega)⟩)⟩)))
theorem maps_k (u : cT G R T B b g p n C D o m E) (th : TH T V) {a c e : Int} (ha : i32 a) (hc : i32 c) (he : i32 e) : oJ T 129 [(4, (B : Int)), (0, a), (0, c), (0, e)] G R V :=
  c_X7_maps (t_X7_maps_0 u.ly (pX_u (isAct_k u ha) (fun v1 h1 => ⟨by omega, fun _ => ⟨_, rfl, by omega, th⟩, fun z1 => pX_u (isAct_k u hc) (fun v2 h2 => ⟨by omega, fun _ => ⟨_, rfl, by omega, th⟩, fun z2 => pI_u (isWay_c he) (fun v3 h3 => ⟨by omega, fun _ => ⟨he, fun _ => ⟨b, ⟨u.rb, u.u.b.ly⟩, pJ_u (mapsOnToAll_k u.u th (h1.2 z1) (h2.2 z2)) (fun v hv => ⟨hv, fun _ => ⟨_, rfl, hv, th⟩, fun _ => ⟨_, rfl, by omega, th⟩⟩)⟩, fun _ => ⟨b, ⟨u.rb, u.u.b.ly⟩, pJ_u (mapsAlong_k u.u th (h1.2 z1) (h2.2 z2)) (fun v hv => ⟨hv, fun _ => ⟨_, rfl, hv, th⟩, fun _ => ⟨_, rfl, by omega, th⟩⟩)⟩⟩, fun _ => ⟨_, rfl, by omega, th⟩⟩)⟩)⟩)))
theorem status_k (u : cT G R T B b g p n C D o m E) (th : TH T V) : oI T 137 [(4, (B : Int))] G R V := c_X7_status (t_X7_status_0 u.ly (fun e => ⟨_, rfl, e, th⟩))
theorem chance_k (u : cT G R T B b g p n C D o m E) (th : TH T V) {a c : Int} (ha : i32 a) (hc : i32 c) : oJ T 133 [(4, (B : Int)), (0, a), (0, c)] G R V :=
  c_X7_chance (t_X7_chance_0 u.ly ⟨ha, fun _ => ⟨_, rfl, by omega, th⟩, fun _ => ⟨fun _ => ⟨_, rfl, by omega, th⟩, fun _ => ⟨hc, fun _ => ⟨_, rfl, by omega, th⟩, fun _ => ⟨fun _ => ⟨b, ⟨u.rb, u.u.b.ly⟩, g, ⟨u.u.rg, u.u.g.ly⟩, pJ_u (draws_k u.u.g.h.a th (by omega)) (fun v hv _ => pJ_u (powerOf_c (by omega)) (fun w hw => pJ_u (greatestDivisor_c hv hw) (fun z hz => ⟨hz, fun hn => ⟨fun _ => ⟨hn, _, rfl, t64 _, th⟩, fun _ => ⟨hn, _, rfl, t64 _, th⟩⟩, fun _ => ⟨_, rfl, by omega, th⟩⟩)))⟩, fun _ => ⟨_, rfl, by omega, th⟩⟩⟩⟩⟩)
theorem rank_k (u : cT G R T B b g p n C D o m E) (th : TH T V) : oI T 134 [(4, (B : Int))] G R V := by
  refine c_X7_rank (t_X7_rank_0 u.ly ?_)
  refine pool1 (f := fun i => [some (4, (B : Int)), some (0, i)]) (Inv := fun i => 0 ≤ i ∧ i ≤ 7) (μ := fun i => (7 - i).toNat) (fun i hi ih => ?_) 0 (by omega)
  exact t_X7_rank_2 u.ly ⟨by omega, fun _ => ⟨_, rfl, by omega, th⟩, fun _ => ⟨b, ⟨u.rb, u.u.b.ly⟩, g, ⟨u.u.rg, u.u.g.ly⟩, pJ_u (draws_k u.u.g.h.a th (by omega)) (fun v hv => ⟨hv, fun _ => ⟨by omega, ih _ (by omega) (by omega)⟩, fun _ => ⟨i, rfl, by omega, th⟩⟩)⟩⟩
theorem sylow_k (u : cT G R T B b g p n C D o m E) (th : TH T V) {a : Int} (ha : i32 a) : oI T 116 [(4, (B : Int)), (0, a)] G R V := by
  have d0 := u.u.g.t.d0
  have ct := u.u.g.t.ct _ (th (g + 1) 1)
  have lp : 2 ≤ a ∧ a ≤ 7 → wpv K_X7_sylow 7 (fun r V' => ∃ v : Int, r = some (0, v) ∧ (-2147483648 ≤ v ∧ v ≤ 2147483647) ∧ TH T V') 42 [some (4, (B : Int)), some (0, a), some (0, 1), some (0, V (g + 1) 1), some (0, 0)] [] G R V := by
    intro ha
    refine pool3 (f := fun q r i => [some (4, (B : Int)), some (0, a), some (0, q), some (0, r), some (0, i)]) (Inv := fun q r i => (1 ≤ q ∧ 0 ≤ r ∧ q * r ≤ 120 ∧ (r = 0 → q ≤ 120)) ∧ 0 ≤ i ∧ i ≤ 120) (μ := fun _ _ i => (120 - i).toNat) (fun q r i hi ih => ?_) 1 _ 0 ⟨⟨by omega, by omega, by omega, by omega⟩, by omega, by omega⟩
    obtain ⟨⟨q1, q2, q3, q4⟩, h0, h1⟩ := hi
    have qb : q ≤ 120 := by
      rcases Int.lt_or_eq_of_le q2 with z | z
      · have : q * 1 ≤ q * r := Int.mul_le_mul_of_nonneg_left (by omega) (by omega)
        omega
      · exact q4 z.symm
    have fin := firstClassOfSize_k (V := V) u.u.g.h.a th (a := q) (by omega)
    have m1 := Int.emod_nonneg r (show a ≠ 0 by omega)
    have m2 := Int.emod_lt_of_pos r (show 0 < a by omega)
    refine t_X7_sylow_42 u.ly ⟨by omega, fun _ => ⟨b, ⟨u.rb, u.u.b.ly⟩, g, ⟨u.u.rg, u.u.g.ly⟩, pI_u fin (fun v hv => ⟨v, rfl, by omega, th⟩)⟩, fun _ => ⟨?_, fun _ => ⟨b, ⟨u.rb, u.u.b.ly⟩, g, ⟨u.u.rg, u.u.g.ly⟩, pI_u fin (fun v hv => ⟨v, rfl, by omega, th⟩)⟩, fun r0 => ⟨by omega, by omega, by omega, fun _ => ⟨b, ⟨u.rb, u.u.b.ly⟩, g, ⟨u.u.rg, u.u.g.ly⟩, pI_u fin (fun v hv => ⟨v, rfl, by omega, th⟩)⟩, fun e0 => ?_⟩⟩⟩
    · have : 1 * r ≤ q * r := Int.mul_le_mul_of_nonneg_right (by omega) (by omega)
      omega
    · have e1 : r = a * (r / a) := by have := Int.mul_ediv_add_emod r a; omega
      have e2 : q * a * (r / a) = q * r := by rw [Int.mul_assoc, ← e1]
      have e3 : 0 ≤ r / a := Int.ediv_nonneg q2 (by omega)
      have e4 : 1 ≤ r / a := by
        rcases Int.lt_or_eq_of_le e3 with z | z
        · omega
        · rw [← z] at e1; omega
      have b1 : 1 * 1 ≤ q * a := Int.mul_le_mul (by omega) (by omega) (by omega) (by omega)
      have b2 : q * a * 1 ≤ q * a * (r / a) := Int.mul_le_mul_of_nonneg_left e4 (by omega)
      have b3 : q * a ≤ 120 * 7 := Int.mul_le_mul qb ha.2 (by omega) (by omega)
      exact ⟨by omega, by omega, by omega, ih _ _ _ ⟨⟨by omega, e3, by omega, by omega⟩, by omega, by omega⟩ (by omega)⟩
  exact c_X7_sylow (t_X7_sylow_0 u.ly ⟨ha, fun e => ⟨b, ⟨u.rb, u.u.b.ly⟩, g, ⟨u.u.rg, u.u.g.ly⟩, fun _ => lp (by omega)⟩, fun _ => ⟨fun e => ⟨b, ⟨u.rb, u.u.b.ly⟩, g, ⟨u.u.rg, u.u.g.ly⟩, fun _ => lp (by omega)⟩, fun _ => ⟨fun e => ⟨b, ⟨u.rb, u.u.b.ly⟩, g, ⟨u.u.rg, u.u.g.ly⟩, fun _ => lp (by omega)⟩, fun _ => ⟨fun e => ⟨b, ⟨u.rb, u.u.b.ly⟩, g, ⟨u.u.rg, u.u.g.ly⟩, fun _ => lp (by omega)⟩, fun _ => ⟨_, rfl, by omega, th⟩⟩⟩⟩⟩)
end
