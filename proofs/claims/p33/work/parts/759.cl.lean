/-! both have the same classes, signs and marks -/
section
variable {V : gV} {M : Nat} {d : gD} {c e h : Int}
theorem MI_gt (hM : MI V M) : GT (V M 5) (mMul V M) (mInv V M) := (GC_N hM.2.1).1
theorem MI_hp (hM : MI V M) : hpsP (V M 5) (V M 12) (mMul V M) (mHas V M) (fun k => V (M + 10) k) := hM.2.1.2.1.2.1
theorem MI_so (hM : MI V M) : srtS (V M 5) (V M 12) (mHas V M) := hM.2.1.2.1.2.2.2.2.2.2.2.2.1
theorem MI_cl (hM : MI V M) : clX (V M 5) (V M 12) (V M 13) (mMul V M) (mInv V M) (mHas V M) (fun h => V (M + 14) h) (fun c => V (M + 15) c) (fun c => V (M + 16) c) := hM.2.1.2.1.2.2.2.2.2.2.2.2.2
theorem MI_tx (hM : MI V M) (c0 : 0 ≤ c ∧ c < V M 13) (e0 : 0 ≤ e ∧ e < V M 13) : V (M + 18) (300 * c + e) = tbx (V M 5) (mMul V M) (mInv V M) (mHas V M) (fun c => V (M + 15) c) c e := (hM.2.1.2.2.1 c e c0.1 c0.2 e0.1 e0.2).2.2.2
theorem MI_sg (hM : MI V M) (h0 : 0 ≤ h ∧ h < V M 12) : V (M + 17) h = jw (mu (V M 12) (Lq (V M 5) (mHas V M)) h) := hM.2.1.2.2.2 h h0.1 h0.2
abbrev dQ (d : gD) (V : gV) (M : Nat) : Prop := dEq d (V M 4) (V M 5) (fun i => V (M + 4) i)
theorem dQ_hg (h : dQ d V M) : hgD d := h.2.2.2.2.2.2.2
theorem iv_eq (hM : MI V M) (h : dQ d V M) {t : Int} (t0 : 0 ≤ t ∧ t < V M 5) : d 230 t = mInv V M t := by
  have g := (dQ_hg h).1
  rw [h.2.1] at g
  exact inv_E g (MI_gt hM) (mul_eq hM h) t0
theorem gp_eq (hM : MI V M) (h : dQ d V M) : d 0 3 = V M 13 ∧ (∀ k, 0 ≤ k → k < V M 12 → d 204 k = V (M + 14) k) ∧ (∀ c, 0 ≤ c → c < V M 13 → d 207 c = V (M + 15) c) ∧ (∀ c, 0 ≤ c → c < V M 13 → d 208 c = V (M + 16) c) := by
  obtain ⟨K, rq, _⟩ := hp_eq hM h
  have e1 := h.2.1
  have hg := dQ_hg h
  have gd := hg.1
  have cd := hg.2.1
  rw [e1] at gd
  rw [e1, K] at cd
  have gm := MI_gt hM
  have me := mul_eq hM h
  have me' : ∀ s t, 0 ≤ s → s < V M 5 → 0 ≤ t → t < V M 5 → mMul V M s t = mlD d s t := fun s t a b c e => (me s t a b c e).symm
  have c2 := cl_E gd gm me (fun A B => ⟨CJ_E gd gm me, CJ_E gm gd me'⟩) cd
  have hp := h.2.2.2.2.1
  rw [e1, K] at hp
  have sS : ∀ k, 0 ≤ k → k < V M 12 → SM (V M 5) (mMul V M) (hsD d k) := fun k k0 k1 => SM_mul me (hp.2.2.1 k k0 k1).1
  have c3 := cl_c gm sS rq c2
  obtain ⟨CC, ce, fe, ne⟩ := cl_uni gm (fun k k0 k1 => ((MI_hp hM).2.2.1 k k0 k1).1) c3 (MI_cl hM)
  exact ⟨CC, ce, fun c c0 c1 => fe c c0 (by omega), fun c c0 c1 => ne c c0 (by omega)⟩
theorem Lq_eq (hM : MI V M) (h : dQ d V M) {a b : Int} (a0 : 0 ≤ a ∧ a < V M 12) (b0 : 0 ≤ b ∧ b < V M 12) : Lq (V M 5) (hsD d) a b = Lq (V M 5) (mHas V M) a b := by
  have rq := (hp_eq hM h).2.1
  exact bi_c (sub_iff (rq a a0.1 a0.2) (rq b b0.1 b0.2))
noncomputable abbrev rov (V : gV) (M : Nat) : Int → Int → Int := ov (V M 5) (V M 12) (mHas V M) (fun h => V (M + 14) h) (fun c => V (M + 15) c)
theorem ov_eq (hM : MI V M) (h : dQ d V M) (c0 : 0 ≤ c ∧ c < V M 13) (e0 : 0 ≤ e ∧ e < V M 13) : d 220 (c * V M 13 + e) = rov V M c e := by
  obtain ⟨K, rq, _⟩ := hp_eq hM h
  obtain ⟨CC, ce, fe, ne⟩ := gp_eq hM h
  have q := (dQ_hg h).2.2.1 c e c0.1 (by omega) e0.1 (by omega)
  rw [CC, h.2.1, K] at q
  rw [q]
  have n := MI_N hM
  have f := MI_fo hM c0
  refine sm_congr (fun k k0 k1 => ?_)
  (try dsimp only)
  rw [ce k k0 (by omega), fe c c0.1 c0.2, Lq_eq hM h f ⟨k0, by omega⟩]
theorem spare_eq (hM : MI V M) (h : dQ d V M) (c0 : 0 ≤ c ∧ c < V M 13) : d 210 c = V M 5 / (V (M + 16) c * V (M + 10) (V (M + 15) c)) := by
  obtain ⟨K, rq, sz⟩ := hp_eq hM h
  obtain ⟨CC, ce, fe, ne⟩ := gp_eq hM h
  have f := MI_fo hM c0
  have q := (dQ_hg h).2.2.2.1 c c0.1 (by omega)
  rw [q, h.2.1, ne c c0.1 c0.2, fe c c0.1 c0.2, sz _ f.1 f.2]
theorem tb_eq (hM : MI V M) (h : dQ d V M) (c0 : 0 ≤ c ∧ c < V M 13) (e0 : 0 ≤ e ∧ e < V M 13) : d 210 c * d 220 (e * V M 13 + c) = V (M + 18) (300 * c + e) := by
  rw [MI_tx hM c0 e0, tb_e (MI_gt hM) (MI_hp hM) (MI_cl hM) c0 e0, ov_eq hM h e0 c0, spare_eq hM h c0]
theorem mu_eqd (hM : MI V M) (h : dQ d V M) {k : Int} (k0 : 0 ≤ k ∧ k < V M 12) : mu (d 0 2) (Lq (d 0 1) (hsD d)) k = mu (V M 12) (Lq (V M 5) (mHas V M)) k := by
  obtain ⟨K, rq, _⟩ := hp_eq hM h
  rw [K, h.2.1]
  exact mu_S rq k0.1 k0.2
end
/-! ofClass, within, table, simple, exactly -/
def ocX (d : gD) (c w : Int) : Int := if 0 ≤ c ∧ c < d 0 3 then (if w = 0 then d 203 (d 207 c) else if w = 1 then d 208 c else if w = 2 then d 207 c else -1) else -1
def rocX (V : gV) (M : Nat) (c w : Int) : Int := if 0 ≤ c ∧ c < V M 13 then (if w = 0 then V (M + 10) (V (M + 15) c) else if w = 1 then V (M + 16) c else if w = 2 then V (M + 15) c else -1) else -1
noncomputable def wiX (d : gD) (c e w : Int) : Int := if (0 ≤ c ∧ c < d 0 3) ∧ (0 ≤ e ∧ e < d 0 3) ∧ (w = 0 ∨ w = 1) then (if w = 0 then d 220 (e * d 0 3 + c) * d 208 e / d 208 c else d 220 (c * d 0 3 + e)) else -1
noncomputable def rwiX (V : gV) (M : Nat) (c e w : Int) : Int := if (0 ≤ c ∧ c < V M 13) ∧ (0 ≤ e ∧ e < V M 13) ∧ (w = 0 ∨ w = 1) then (if w = 0 then sm (fun k => bi (V (M + 14) k = e) * Lq (V M 5) (mHas V M) k (V (M + 15) c)) (V M 12).toNat else rov V M c e) else -1
def taX (d : gD) (c e : Int) : Int := if (0 ≤ c ∧ c < d 0 3) ∧ (0 ≤ e ∧ e < d 0 3) then d 210 c * d 220 (e * d 0 3 + c) else -1
def rtaX (V : gV) (M : Nat) (c e : Int) : Int := if (0 ≤ c ∧ c < V M 13) ∧ (0 ≤ e ∧ e < V M 13) then V (M + 18) (300 * c + e) else -1
noncomputable def siX (d : gD) : Int := bi (sm (fun c => bi (d 208 c = 1)) (d 0 3).toNat = 2)
noncomputable def rsiX (V : gV) (M : Nat) : Int := bi (sm (fun h => bi (V (M + 16) (V (M + 14) h) = 1)) (V M 12).toNat = 2)
section
variable {V : gV} {M : Nat} {d : gD} {c e w h : Int}
theorem oc_eq (hM : MI V M) (h : dQ d V M) : ocX d c w = rocX V M c w := by
  obtain ⟨K, rq, sz⟩ := hp_eq hM h
  obtain ⟨CC, ce, fe, ne⟩ := gp_eq hM h
  unfold ocX rocX
  rw [CC]
  by_cases q : 0 ≤ c ∧ c < V M 13
  · have f := MI_fo hM q
    rw [if_pos q, if_pos q, ne c q.1 q.2, fe c q.1 q.2, sz _ f.1 f.2]
  · rw [if_neg q, if_neg q]
theorem wi_eq (hM : MI V M) (h : dQ d V M) : wiX d c e w = rwiX V M c e w := by
  obtain ⟨CC, ce, fe, ne⟩ := gp_eq hM h
  unfold wiX rwiX
  rw [CC]
  by_cases q : (0 ≤ c ∧ c < V M 13) ∧ (0 ≤ e ∧ e < V M 13) ∧ (w = 0 ∨ w = 1)
  · rw [if_pos q, if_pos q]
    by_cases z : w = 0
    · rw [if_pos z, if_pos z, ov_eq hM h q.2.1 q.1, ne c q.1.1 q.1.2, ne e q.2.1.1 q.2.1.2]
      exact below_e (MI_gt hM) (MI_hp hM) (MI_cl hM) q.1 q.2.1
    · rw [if_neg z, if_neg z, ov_eq hM h q.1 q.2.1]
  · rw [if_neg q, if_neg q]
theorem ta_eq (hM : MI V M) (h : dQ d V M) : taX d c e = rtaX V M c e := by
  obtain ⟨CC, ce, fe, ne⟩ := gp_eq hM h
  unfold taX rtaX
  rw [CC]
  by_cases q : (0 ≤ c ∧ c < V M 13) ∧ (0 ≤ e ∧ e < V M 13)
  · rw [if_pos q, if_pos q, tb_eq hM h q.1 q.2]
  · rw [if_neg q, if_neg q]
theorem si_eq (hM : MI V M) (h : dQ d V M) : siX d = rsiX V M := by
  obtain ⟨CC, ce, fe, ne⟩ := gp_eq hM h
  have cl := MI_cl hM
  have n := MI_N hM
  have s := sm_cl (MI_hp hM) cl (fun _ => 1) (fun k => bi (V (M + 16) (V (M + 14) k) = 1)) (fun k k0 k1 => by
    have a := cl.2.1 k k0 k1
    have b := (cl.2.2.1 _ a.1.1 a.1.2).2
    (try dsimp only at b ⊢)
    rw [b])
  unfold siX rsiX
  have e1 : sm (fun h => bi (V (M + 16) (V (M + 14) h) = 1)) (V M 12).toNat = sm (fun c => bi (d 208 c = 1)) (d 0 3).toNat := by
    rw [sm_congr (g := fun k => 1 * bi (V (M + 16) (V (M + 14) k) = 1)) (fun k _ _ => (Int.one_mul _).symm), s, CC]
    refine sm_congr (fun c c0 c1 => ?_)
    (try dsimp only)
    have b := (cl.2.2.1 c c0 (by omega)).2
    have nu := cl.2.2.2.2.2 c c0 (by omega)
    (try dsimp only at b nu)
    rw [b, ne c c0 (by omega)]
    by_cases q : V (M + 16) c = 1
    · rw [bi_t q, sm_congr (g := fun j => bi (V (M + 14) j = c)) (fun j _ _ => Int.mul_one _), ← nu, q]; rfl
    · rw [bi_f q, Int.mul_zero]
  rw [e1]
end
section
variable {G : List gS} {R V : gV} {T : gT} {W : gV} {L : Int → Int} {I : Int → gD} {B M S N g b x p n o m y : Nat} {C D E : Int} {dd : gD}
theorem lk_3 (lk : lkT T R g dd) (th : TH T V) : V (g + 10) 1 = dd 0 3 := lk.2.2.2.2.2.2.2.1 _ (th (g + 10) 1)
theorem lk_2 (lk : lkT T R g dd) (th : TH T V) : V (g + 10) 0 = dd 0 2 := lk.2.2.2.2.2.2.1 _ (th (g + 10) 0)
theorem lk_j (lk : lkT T R g dd) (th : TH T V) (j : Nat) (j1 : 1 ≤ j) (j2 : j ≤ 11) (j3 : j ≠ 6) (i : Int) : V (g + 10 + j) i = dd (200 + j) i := lk.2.2.2.2.2.2.2.2.1 j j1 j2 j3 i _ (th (g + 10 + j) i)
theorem lk_o (lk : lkT T R g dd) (th : TH T V) (ho : R (g + 10) 13 = (o : Int)) (i : Int) : V o i = dd 220 i := lk.2.2.2.2.2.2.2.2.2.1 o ho i _ (th o i)
theorem ofClass_X (u : cT G R T B b g p n C D o m E) (lk : lkT T R g dd) (th : TH T V) {a c : Int} (ha : i32 a) (hc : i32 c) : wE T 8 (ocX dd a c) 113 [(4, (B : Int)), (0, a), (0, c)] G R V := by
  have cl := u.u.g.h.a.cl _ (th (g + 10) 1)
  have e3 := lk_3 lk th
  have v8 : V (g + 18) a = dd 208 a := lk_j lk th 8 (by omega) (by omega) (by omega) a
  have v7 : V (g + 17) a = dd 207 a := lk_j lk th 7 (by omega) (by omega) (by omega) a
  have v7' : V (g + 10 + 7) a = dd 207 a := v7
  have v3 : V (g + 10 + 3) (dd 207 a) = dd 203 (dd 207 a) := lk_j lk th 3 (by omega) (by omega) (by omega) _
  refine c_X7_ofClass (t_X7_ofClass_0 u.ly ⟨b, ⟨u.rb, u.u.b.ly⟩, g, ⟨u.u.rg, u.u.g.ly⟩, bI_u (isClass_k u.u.g.h.a.ly ha) ⟨bi32 _, fun h => ?_, fun h => ⟨_, rfl, ?_, th⟩⟩⟩)
  · have hb := bi_nz h
    have v : ocX dd a c = (if c = 0 then dd 203 (dd 207 a) else if c = 1 then dd 208 a else if c = 2 then dd 207 a else -1) := by unfold ocX; rw [if_pos (by omega)]
    rw [v]
    refine ⟨hc, fun z => ⟨_, rfl, ?_, th⟩, fun z => bI_u (sizeInClass_e u.u.g.h.a th (by omega)) ⟨_, rfl, ?_, th⟩, fun z => ⟨by omega, fun _ => ⟨_, rfl, ?_, th⟩⟩, fun z => ⟨by omega, fun _ => ⟨_, rfl, ?_, th⟩⟩⟩
    · rw [if_neg (by omega), if_neg (by omega), if_neg (by omega)]
    · rw [if_pos z, v7', v3]
    · rw [if_neg (by omega), if_pos z, v8]
    · rw [if_neg (by omega), if_neg (by omega), if_pos z, v7]
  · have := bi_0.mp h
    unfold ocX
    rw [if_neg (by omega)]
theorem below_x (h : hT G R T y o m E) (th : TH T V) {a b : Int} (ha : 0 ≤ a ∧ a < E) (hb : 0 ≤ b ∧ b < E) (hp : 0 < V (y + 8) a) : cpI 2 (V o (b * V y 1 + a) * V (y + 8) b / V (y + 8) a) 70 [(4, (y : Int)), (0, a), (0, b)] G R V := by
  have c := h.e0
  have n1 := (h.a.nu _ _).mp (th (y + 8) a)
  have n2 := (h.a.nu _ _).mp (th (y + 8) b)
  have ov := (h.ov _ _).mp (th o (b * V y 1 + a))
  refine c_X4_below (t_X4_below_0 h.a.ly ⟨by omega, fun _ => ⟨fun q => absurd hp q, fun h0 => cpI_u (by omega) (above_e h th hb ha) ?_⟩⟩)
  have z0 : 0 ≤ V o (b * V y 1 + a) * V (y + 8) b := Int.mul_nonneg ov.1 n2.1
  have z1 : V o (b * V y 1 + a) * V (y + 8) b ≤ 90000 * 300 := Int.mul_le_mul ov.2 n2.2 n2.1 (by omega)
  exact ⟨by omega, fun _ => ⟨by omega, fun _ => ⟨by omega, rfl, rfl⟩⟩⟩
theorem markOn_e (h : hT G R T y o m E) (th : TH T V) {a b : Int} (ha : 0 ≤ a ∧ a < E) (hb : 0 ≤ b ∧ b < E) : cpI 2 (V (y + 10) a * V o (b * V y 1 + a)) 71 [(4, (y : Int)), (0, a), (0, b)] G R V := by
  have c := h.e0
  have s := (h.a.sp _ _).mp (th (y + 10) a)
  have ov := (h.ov _ _).mp (th o (b * V y 1 + a))
  refine c_X4_markOn (t_X4_markOn_0 h.a.ly ⟨by omega, fun _ => cpI_u (by omega) (above_e h th hb ha) ?_⟩)
  have z0 : 0 ≤ V (y + 10) a * V o (b * V y 1 + a) := Int.mul_nonneg s.1 ov.1
  have z1 : V (y + 10) a * V o (b * V y 1 + a) ≤ 120 * 90000 := Int.mul_le_mul s.2 ov.2 ov.1 (by omega)
  exact ⟨by omega, rfl, rfl⟩
theorem within_X (u : cT G R T B b g p n C D o m E) (lk : lkT T R g dd) (hg : hgD dd) (th : TH T V) {a c e : Int} (ha : i32 a) (hc : i32 c) (he : i32 e) : wE T 8 (wiX dd a c e) 114 [(4, (B : Int)), (0, a), (0, c), (0, e)] G R V := by
  have cl := u.u.g.h.cE _ (th (g + 10) 1)
  have e3 := lk_3 lk th
  have no : ¬ ((0 ≤ a ∧ a < dd 0 3) ∧ (0 ≤ c ∧ c < dd 0 3) ∧ (e = 0 ∨ e = 1)) → (-1 : Int) = wiX dd a c e := fun z => by unfold wiX; rw [if_neg z]
  refine c_X7_within (t_X7_within_0 u.ly ⟨b, ⟨u.rb, u.u.b.ly⟩, g, ⟨u.u.rg, u.u.g.ly⟩, bI_u (isClass_k u.u.g.h.a.ly ha) ⟨bi32 _, fun z => ⟨_, rfl, no (by have := bi_0.mp z; omega), th⟩, fun h => bI_u (isClass_k u.u.g.h.a.ly hc) ⟨bi32 _, fun z => ⟨_, rfl, no (by have := bi_0.mp z; omega), th⟩, fun h2 => bI_u (isWay_e he) ⟨bi32 _, fun h3 => ?_, fun z => ⟨_, rfl, no (by have := bi_0.mp z; omega), th⟩⟩⟩⟩⟩)
  have hb := bi_nz h
  have hb2 := bi_nz h2
  have hb3 := bi_nz h3
  have v : wiX dd a c e = (if e = 0 then dd 220 (c * dd 0 3 + a) * dd 208 c / dd 208 a else dd 220 (a * dd 0 3 + c)) := by unfold wiX; rw [if_pos ⟨by omega, by omega, hb3⟩]
  have n8 : ∀ i, V (g + 10 + 8) i = dd 208 i := fun i => lk_j lk th 8 (by omega) (by omega) (by omega) i
  have oo := lk_o lk th u.u.g.h.ro
  have np : 1 ≤ dd 208 a := nu_p hg.2.1 (by omega)
  rw [v]
  refine ⟨he, fun z => bI_u (above_e u.u.g.h th (by omega) (by omega)) ⟨_, rfl, ?_, th⟩, fun z => bI_u (below_x u.u.g.h th (by omega) (by omega) (by rw [n8]; omega)) ⟨_, rfl, ?_, th⟩⟩
  · rw [if_neg z, oo, e3]
  · rw [if_pos z, n8, n8, oo, e3]
theorem table_X (u : cT G R T B b g p n C D o m E) (lk : lkT T R g dd) (th : TH T V) {a c : Int} (ha : i32 a) (hc : i32 c) : wE T 8 (taX dd a c) 115 [(4, (B : Int)), (0, a), (0, c)] G R V := by
  have cl := u.u.g.h.cE _ (th (g + 10) 1)
  have e3 := lk_3 lk th
  have no : ¬ ((0 ≤ a ∧ a < dd 0 3) ∧ (0 ≤ c ∧ c < dd 0 3)) → (-1 : Int) = taX dd a c := fun z => by unfold taX; rw [if_neg z]
  refine c_X7_table (t_X7_table_0 u.ly ⟨b, ⟨u.rb, u.u.b.ly⟩, g, ⟨u.u.rg, u.u.g.ly⟩, bI_u (isClass_k u.u.g.h.a.ly ha) ⟨bi32 _, fun z => ⟨_, rfl, no (by have := bi_0.mp z; omega), th⟩, fun h => bI_u (isClass_k u.u.g.h.a.ly hc) ⟨bi32 _, fun z => ⟨_, rfl, no (by have := bi_0.mp z; omega), th⟩, fun h2 => ?_⟩⟩⟩)
  have hb := bi_nz h
  have hb2 := bi_nz h2
  refine bI_u (markOn_e u.u.g.h th (by omega) (by omega)) ⟨_, rfl, ?_, th⟩
  unfold taX
  rw [if_pos (by omega), lk_o lk th u.u.g.h.ro, e3]
  rw [show V (g + 10 + 10) a = dd 210 a from lk_j lk th 10 (by omega) (by omega) (by omega) a]
theorem countNormal_e (h : hA G R T y) (th : TH T V) : cpI 1 (sm (fun c => bi (V (y + 8) c = 1)) (V y 1).toNat) 67 [(4, (y : Int))] G R V := by
  have c := h.cl _ (th y 1)
  refine c_X4_countNormal (t_X4_countNormal_0 h.ly ?_)
  refine pool2 (f := fun q i => [some (4, (y : Int)), some (0, q), some (0, i)]) (Inv := fun q i => (0 ≤ q ∧ q ≤ i) ∧ i ≤ V y 1 ∧ q = sm (fun c => bi (V (y + 8) c = 1)) i.toNat) (μ := fun _ i => (300 - i).toNat) (fun q i hi ih => ?_) 0 0 ⟨by omega, by omega, rfl⟩
  obtain ⟨q0, i1, eq⟩ := hi
  have st := sm_s (fun c => bi (V (y + 8) c = 1)) (show 0 ≤ i by omega)
  refine t_X4_countNormal_4 h.ly (fun _ => ⟨by omega, fun z => ⟨by rw [eq, show i = V y 1 by omega], rfl⟩, fun z => ⟨by omega, fun _ => ⟨fun z2 => ⟨by omega, ih _ _ ⟨by omega, by omega, ?_⟩ (by omega)⟩, fun z2 => ⟨by omega, by omega, ih _ _ ⟨by omega, by omega, ?_⟩ (by omega)⟩⟩⟩⟩)
  · rw [st, eq]
    (try dsimp only)
    rw [bi_f z2, Int.add_zero]
  · rw [st, eq]
    (try dsimp only)
    rw [bi_t z2]
theorem simple_X (u : cT G R T B b g p n C D o m E) (lk : lkT T R g dd) (th : TH T V) : wE T 8 (siX dd) 118 [(4, (B : Int))] G R V := by
  have cl := u.u.g.h.a.cl _ (th (g + 10) 1)
  have e3 := lk_3 lk th
  have es : sm (fun c => bi (V (g + 10 + 8) c = 1)) (V (g + 10) 1).toNat = sm (fun c => bi (dd 208 c = 1)) (dd 0 3).toNat := by
    rw [e3]
    exact sm_congr (fun c _ _ => by rw [show V (g + 10 + 8) c = dd 208 c from lk_j lk th 8 (by omega) (by omega) (by omega) c])
  have bd := sm_b (f := fun c => bi (dd 208 c = 1)) (n := (dd 0 3).toNat) (fun c _ _ => by rcases bi_01 (dd 208 c = 1) with q | q <;> · (try dsimp only); omega)
  have ce := countNormal_e (V := V) u.u.g.h.a th
  rw [es] at ce
  exact c_X7_simple (t_X7_simple_0 u.ly ⟨b, ⟨u.rb, u.u.b.ly⟩, g, ⟨u.u.rg, u.u.g.ly⟩, bI_u ce ⟨by omega, fun z => ⟨0, rfl, (bi_f z).symm, th⟩, fun z => ⟨1, rfl, (bi_t z).symm, th⟩⟩⟩)
/-! the reference's -/
theorem ofClass_C (ly : lay8 G R M) (hM : MI V M) {c w : Int} (h1 : i32 c) (h2 : i32 w) : cwv 3 (fun r V' => r = some (0, rocX V M c w) ∧ V' = V) 202 [(4, (M : Int)), (0, c), (0, w)] G R V := by
  have n := MI_N hM
  refine c_X8_ofClass (t_X8_ofClass_0 ly (cpI_u (Nat.le_refl _) (isClass_c ly hM h1) ⟨bi32 _, fun z => ?_, fun z => ⟨?_, rfl⟩⟩))
  · have a := bi_n0 z
    have f := MI_fo hM (c := c) (by omega)
    have v : rocX V M c w = (if w = 0 then V (M + 10) (V (M + 15) c) else if w = 1 then V (M + 16) c else if w = 2 then V (M + 15) c else -1) := by unfold rocX; rw [if_pos (by omega)]
    rw [v]
    exact ⟨h2, fun z0 => ⟨fun z1 => ⟨fun z2 => ⟨by rw [if_neg z0, if_neg z1, if_neg z2], rfl⟩, fun z2 => ⟨by omega, fun _ => ⟨by rw [if_neg z0, if_neg z1, if_pos z2], rfl⟩⟩⟩, fun z1 => ⟨by omega, fun _ => ⟨by rw [if_neg z0, if_pos z1], rfl⟩⟩⟩, fun z0 => ⟨by omega, fun _ => ⟨by omega, fun _ => ⟨by rw [if_pos z0], rfl⟩⟩⟩⟩
  · have := bi_0.mp z
    unfold rocX
    rw [if_neg (by omega)]
theorem within_C (ly : lay8 G R M) (hM : MI V M) {c e w : Int} (h1 : i32 c) (h2 : i32 e) (h3 : i32 w) : cwv 3 (fun r V' => r = some (0, rwiX V M c e w) ∧ V' = V) 203 [(4, (M : Int)), (0, c), (0, e), (0, w)] G R V := by
  have n := MI_N hM
  have no : ¬ ((0 ≤ c ∧ c < V M 13) ∧ (0 ≤ e ∧ e < V M 13) ∧ (w = 0 ∨ w = 1)) → rwiX V M c e w = -1 := fun z => by unfold rwiX; rw [if_neg z]
  refine c_X8_within (t_X8_within_0 ly (cpI_u (Nat.le_refl _) (isClass_c ly hM h1) ⟨bi32 _, fun z => ⟨by rw [no (by have := bi_0.mp z; omega)], rfl⟩, fun z => cpI_u (Nat.le_refl _) (isClass_c ly hM h2) ⟨bi32 _, fun z => ⟨by rw [no (by have := bi_0.mp z; omega)], rfl⟩, fun z2 => ⟨h3, cpI_u (by omega) (in_c (i32_64 h3) ⟨by omega, by omega⟩ ⟨by omega, by omega⟩) ⟨bi32 _, fun z3 => ?_, fun z => ⟨by rw [no (by have := bi_0.mp z; omega)], rfl⟩⟩⟩⟩⟩))
  have a := bi_n0 z
  have b := bi_n0 z2
  have cw := bi_n0 z3
  have f := MI_fo hM (c := c) (by omega)
  have f0 := f.1
  have f1 := f.2
  obtain ⟨F, eF⟩ : ∃ F : Int → Int, F = fun k => if w = 0 then bi (V (M + 14) k = e) * Lq (V M 5) (mHas V M) k (V (M + 15) c) else bi (V (M + 14) k = e) * Lq (V M 5) (mHas V M) (V (M + 15) c) k := ⟨_, rfl⟩
  have v : rwiX V M c e w = sm F (V M 12).toNat := by
    unfold rwiX
    rw [if_pos ⟨by omega, by omega, by omega⟩, eF]
    by_cases q : w = 0
    · rw [if_pos q]
      exact sm_congr (fun k _ _ => (if_pos q).symm)
    · rw [if_neg q]
      exact sm_congr (fun k _ _ => (if_neg q).symm)
  rw [v]
  refine pool2 (f := fun x y => [some (4, (M : Int)), some (0, c), some (0, e), some (0, w), some (0, x), some (0, y)]) (fun x y => 0 ≤ y ∧ y ≤ V M 12 ∧ (0 ≤ x ∧ x ≤ y) ∧ x = sm F y.toNat) (fun _ y => (V M 12 - y).toNat) (fun x y hx ih => ?_) 0 0 ⟨by omega, by omega, by omega, rfl⟩
  obtain ⟨y0, y1, x0, ex⟩ := hx
  have st := sm_s F y0
  have ad : ∀ v, v = F y → x + v = sm F (y + 1).toNat := fun v q => by rw [st, ex, q]
  refine t_X8_within_34 ly (fun _ => ⟨by omega, fun z => ⟨by rw [ex, show y = V M 12 by omega], rfl⟩, fun z => ⟨by omega, fun _ => ⟨h2, fun q => ⟨h3, fun q2 => ⟨by omega, fun _ => cpI_u (by omega) (lies_c ly (by omega) (by omega) (by omega)) ⟨bi32 _, fun q3 => ⟨by omega, by omega, ih _ _ ⟨by omega, by omega, by omega, ad 0 ?_⟩ (by omega)⟩, fun q3 => ⟨by omega, by omega, ih _ _ ⟨by omega, by omega, by omega, ad 1 ?_⟩ (by omega)⟩⟩⟩, fun q2 => ⟨by omega, fun _ => cpI_u (by omega) (lies_c ly (by omega) (by omega) (by omega)) ⟨bi32 _, fun q3 => ⟨by omega, by omega, ih _ _ ⟨by omega, by omega, by omega, ad 0 ?_⟩ (by omega)⟩, fun q3 => ⟨by omega, by omega, ih _ _ ⟨by omega, by omega, by omega, ad 1 ?_⟩ (by omega)⟩⟩⟩⟩, fun q => ⟨by omega, ih _ _ ⟨by omega, by omega, by omega, ?_⟩ (by omega)⟩⟩⟩⟩)
  · rw [eF]
    (try dsimp only)
    rw [if_neg q2, bi_t q, show Lq (V M 5) (mHas V M) (V (M + 15) c) y = 0 from q3]; rfl
  · rw [eF]
    (try dsimp only)
    rw [if_neg q2, bi_t q, show Lq (V M 5) (mHas V M) (V (M + 15) c) y = 1 from bi_t (bi_n0 q3)]; rfl
  · rw [eF]
    (try dsimp only)
    rw [if_pos q2, bi_t q, show Lq (V M 5) (mHas V M) y (V (M + 15) c) = 0 from q3]; rfl
  · rw [eF]
    (try dsimp only)
    rw [if_pos q2, bi_t q, show Lq (V M 5) (mHas V M) y (V (M + 15) c) = 1 from bi_t (bi_n0 q3)]; rfl
  · have z0 : F y = 0 := by
      rw [eF]
      (try dsimp only)
      by_cases r : w = 0
      · rw [if_pos r, bi_f q, Int.zero_mul]
      · rw [if_neg r, bi_f q, Int.zero_mul]
    rw [st, z0, ex, Int.add_zero]
theorem table_C (ly : lay8 G R M) (hM : MI V M) {s t : Int} (h1 : i32 s) (h2 : i32 t) : cwv 3 (fun r V' => r = some (0, rtaX V M s t) ∧ V' = V) 204 [(4, (M : Int)), (0, s), (0, t)] G R V := by
  have n := MI_N hM
  have no : ¬ ((0 ≤ s ∧ s < V M 13) ∧ (0 ≤ t ∧ t < V M 13)) → rtaX V M s t = -1 := fun z => by unfold rtaX; rw [if_neg z]
  refine c_X8_table (t_X8_table_0 ly (cpI_u (Nat.le_refl _) (isClass_c ly hM h1) ⟨bi32 _, fun z => ⟨by rw [no (by have := bi_0.mp z; omega)], rfl⟩, fun z => cpI_u (Nat.le_refl _) (isClass_c ly hM h2) ⟨bi32 _, fun z => ⟨by rw [no (by have := bi_0.mp z; omega)], rfl⟩, fun z2 => ?_⟩⟩))
  have a := bi_n0 z
  have b := bi_n0 z2
  exact ⟨by omega, by omega, by omega, fun _ => ⟨by unfold rtaX; rw [if_pos (by omega)], rfl⟩⟩
theorem isNormal_e (ly : lay8 G R M) (hM : MI V M) {h : Int} (h0 : 0 ≤ h ∧ h < V M 12) : cpI 1 (bi (V (M + 16) (V (M + 14) h) = 1)) 198 [(4, (M : Int)), (0, h)] G R V := by
  have n := MI_N hM
  have c := MI_co hM h0
  exact c_X8_isNormal (t_X8_isNormal_0 ly ⟨by omega, fun _ => ⟨by omega, fun _ => ⟨fun z => ⟨by rw [bi_f z], rfl⟩, fun z => ⟨by rw [bi_t z], rfl⟩⟩⟩⟩)
theorem simple_C (ly : lay8 G R M) (hM : MI V M) : cwv 2 (fun r V' => r = some (0, rsiX V M) ∧ V' = V) 207 [(4, (M : Int))] G R V := by
  have n := MI_N hM
  refine c_X8_simple (t_X8_simple_0 ly ?_)
  refine pool2 (f := fun x y => [some (4, (M : Int)), some (0, x), some (0, y)]) (fun x y => 0 ≤ y ∧ y ≤ V M 12 ∧ (0 ≤ x ∧ x ≤ y) ∧ x = sm (fun h => bi (V (M + 16) (V (M + 14) h) = 1)) y.toNat) (fun _ y => (V M 12 - y).toNat) (fun x y hx ih => ?_) 0 0 ⟨by omega, by omega, by omega, rfl⟩
  obtain ⟨y0, y1, x0, ex⟩ := hx
  have st := sm_s (fun h => bi (V (M + 16) (V (M + 14) h) = 1)) y0
  have fin : ¬ y < V M 12 → x = sm (fun h => bi (V (M + 16) (V (M + 14) h) = 1)) (V M 12).toNat := fun z => by rw [ex, show y = V M 12 by omega]
  refine t_X8_simple_4 ly (fun _ => ⟨by omega, fun z => ⟨by omega, fun z2 => ⟨by unfold rsiX; rw [← fin z, bi_f z2], rfl⟩, fun z2 => ⟨by unfold rsiX; rw [← fin z, bi_t z2], rfl⟩⟩, fun c => cpI_u (by omega) (isNormal_e ly hM (by omega)) ⟨bi32 _, fun z => ⟨by omega, by omega, ih _ _ ⟨by omega, by omega, by omega, ?_⟩ (by omega)⟩, fun z => ⟨by omega, by omega, ih _ _ ⟨by omega, by omega, by omega, ?_⟩ (by omega)⟩⟩⟩)
  · rw [st, ← ex]
    (try dsimp only)
    rw [z]
  · rw [st, ← ex]
    (try dsimp only)
    rw [bi_t (bi_n0 z)]
end
