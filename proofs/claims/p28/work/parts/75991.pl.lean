/-! sets and rows of places: the programs -/
theorem kb_all : ∀ x : Fin 256, ∀ q : Fin 8, kand (kshr ((x.val : Nat) : Int) ((q.val : Nat) : Int)) 1 = dgk 2 q.val ((x.val : Nat) : Int) := by decide +kernel
theorem kb_e {x q : Int} (hx : 0 ≤ x ∧ x < 256) (hq : 0 ≤ q ∧ q < 8) : kand (kshr x q) 1 = dgk 2 q.toNat x := by
  have h := kb_all ⟨x.toNat, by omega⟩ ⟨q.toNat, by omega⟩
  simp only [Int.toNat_of_nonneg hx.1, Int.toNat_of_nonneg hq.1] at h
  exact h
theorem kb_01 {x q : Int} (hx : 0 ≤ x ∧ x < 256) (hq : 0 ≤ q ∧ q < 8) : kand (kshr x q) 1 = 0 ∨ kand (kshr x q) 1 = 1 := by
  rw [kb_e hx hq]
  have := dgk_r (k := 2) (by omega) q.toNat x
  omega
theorem k2_all : ∀ q : Fin 9, kshl 1 ((q.val : Nat) : Int) = (2 : Int) ^ q.val := by decide +kernel
theorem k2_e {q : Int} (hq : 0 ≤ q ∧ q ≤ 8) : kshl 1 q = (2 : Int) ^ q.toNat := by
  have h := k2_all ⟨q.toNat, by omega⟩
  simp only [Int.toNat_of_nonneg hq.1] at h
  exact h
def bcE (x0 : Int) : Bool :=
  let a := x0 - kand (kusr x0 1) 1431655765
  let b := kand a 858993459 + kand (kusr a 2) 858993459
  let c := b + kusr b 4
  let e := kand c 252645135
  let f := e + kusr e 8
  let g := f + kusr f 16
  decide (kand g 63 = sm (fun q => dgk 2 q.toNat x0) 8)
theorem bcE_all : ∀ x : Fin 256, bcE ((x.val : Nat) : Int) = true := by decide +kernel
/-- a mask of places; laid on another it sets its places there -/
def bmP (v : Int) (Q : Int → Prop) : Prop := (0 ≤ v ∧ v < 256) ∧ (∀ y, 0 ≤ y → y < 8 → (kand (kshr v y) 1 = 1 ↔ Q y)) ∧ ∀ X, (0 ≤ X ∧ X < 256) → (0 ≤ kor X v ∧ kor X v < 256) ∧ ∀ y, 0 ≤ y → y < 8 → (kand (kshr (kor X v) y) 1 = 1 ↔ (kand (kshr X y) 1 = 1 ∨ Q y))
theorem kor_as (a b c : Int) : kor a (kor b c) = kor (kor a b) c := by
  unfold kor
  rw [Int32.ofInt_toInt, Int32.ofInt_toInt, Int32.or_assoc]
theorem kor_0 {a : Int} (h : 0 ≤ a ∧ a < 256) : kor a 0 = a := by
  unfold kor
  rw [show Int32.ofInt 0 = 0 from rfl, Int32.or_zero]
  exact Int32.toInt_ofInt_of_le (by omega) (by omega)
theorem bm_0 {Q : Int → Prop} (h : ∀ y, ¬ Q y) : bmP 0 Q := by
  have z : ∀ y, 0 ≤ y → y < 8 → ¬ kand (kshr 0 y) 1 = 1 := fun y y0 y1 e => by
    rw [kb_e (by omega) ⟨y0, y1⟩, dg_lo y.toNat 0 (by omega) (by have := p2_p y.toNat; omega)] at e
    omega
  refine ⟨by omega, fun y y0 y1 => ⟨fun e => absurd e (z y y0 y1), fun e => absurd e (h y)⟩, fun X hX => ?_⟩
  rw [kor_0 hX]
  exact ⟨hX, fun y y0 y1 => ⟨Or.inl, fun e => e.elim id (fun q => absurd q (h y))⟩⟩
theorem bm_s {v t : Int} {Q Q' : Int → Prop} (h : bmP v Q) (ht : 0 ≤ t ∧ t < 8) (e : ∀ y, Q' y ↔ (y = t ∨ Q y)) : bmP (kor v (kshl 1 t)) Q' := by
  obtain ⟨v0, a, b⟩ := h
  have bt := fun q q0 q1 => bits (x := v) (t := t) (q := q) v0 ht ⟨q0, q1⟩
  refine ⟨(bt 0 (by omega) (by omega)).2, fun y y0 y1 => ?_, fun X hX => ?_⟩
  · rw [(bt y y0 y1).1, a y y0 y1, e]
  · rw [kor_as]
    have q := b X hX
    have bs := fun q' q0 q1 => bits (x := kor X v) (t := t) (q := q') q.1 ht ⟨q0, q1⟩
    refine ⟨(bs 0 (by omega) (by omega)).2, fun y y0 y1 => ?_⟩
    rw [(bs y y0 y1).1, q.2 y y0 y1, e]
    constructor
    · intro z
      rcases z with z | z | z
      · exact Or.inr (Or.inl z)
      · exact Or.inl z
      · exact Or.inr (Or.inr z)
    · intro z
      rcases z with z | z | z
      · exact Or.inr (Or.inl z)
      · exact Or.inl z
      · exact Or.inr (Or.inr z)
theorem bm_c {v : Int} {Q Q' : Int → Prop} (h : bmP v Q) (e : ∀ y, Q' y ↔ Q y) : bmP v Q' := ⟨h.1, fun y y0 y1 => (h.2.1 y y0 y1).trans (e y).symm, fun X hX => ⟨(h.2.2 X hX).1, fun y y0 y1 => ((h.2.2 X hX).2 y y0 y1).trans (or_congr Iff.rfl (e y).symm)⟩⟩
def plX (a k w P m : Int) : Int := if ((0 ≤ a ∧ a < 8) ∧ (0 ≤ k ∧ k ≤ P)) ∧ (w = 0 ∨ w = 1) then m else -1
def plO (a k w P : Int) : Prop := ((0 ≤ a ∧ a < 8) ∧ (0 ≤ k ∧ k ≤ P)) ∧ (w = 0 ∨ w = 1)
noncomputable def plV (K : Int) (nu : Int → Int) (w k : Int) : Int := if w = 0 then stC K nu k else rwP (sm (fun c => bi (nu c = 1)) K.toNat) k
abbrev pac (V : gV) (M : Nat) : Int → Int → Int := fun x t => V (M + 4) (8 * t + x)
abbrev dac (d : gD) : Int → Int → Int := fun x t => dg (d 1 t) x
/-- the places and what the class leads them by -/
def plD (dd : gD) : Prop := (1 ≤ dd 0 0 ∧ dd 0 0 ≤ 8) ∧ AS (dd 0 0) (dd 0 1) (mlD dd) (dac dd) ∧ (∀ t, 0 ≤ t → t < dd 0 1 → 0 ≤ dd 1 t ∧ dd 1 t < 16777216)
/-- rounds below place x: r of them -/
def rbl (K : Int) (rp : Int → Int) (x r : Int) : Prop := (0 ≤ r ∧ r ≤ K) ∧ ∀ c, 0 ≤ c → c < K → (rp c < x ↔ c < r)
section
variable {E : Int → Int → Prop} {n K x r : Int} {cn rp nu : Int → Int}
theorem rb_0 (nc : ncP E n K cn rp nu) : rbl K rp 0 0 := ⟨by have := nc.1; omega, fun c c0 c1 => by have := (nc.2.2.1 c c0 c1).1; omega⟩
theorem rb_e (nc : ncP E n K cn rp nu) (h : rbl K rp x r) (hx : n ≤ x) : r = K := by
  apply Classical.byContradiction
  intro q
  have h1 := h.1
  have := (nc.2.2.1 r h1.1 (by omega)).1
  have := (h.2 r h1.1 (by omega)).mp (by omega)
  omega
/-- the place was met -/
theorem rb_m (nc : ncP E n K cn rp nu) (h : rbl K rp x r) (x0 : 0 ≤ x ∧ x < n) (q : cn x < r) : rbl K rp (x + 1) r := ⟨h.1, fun c c0 c1 => ⟨fun z => by
  by_cases e : rp c = x
  · have := (nc.2.2.1 c c0 c1).2
    rw [e] at this
    omega
  · exact (h.2 c c0 c1).mp (by omega), fun z => by have := (h.2 c c0 c1).mpr z; omega⟩⟩
/-- the place starts a round -/
theorem rb_n (nc : ncP E n K cn rp nu) (h : rbl K rp x r) (x0 : 0 ≤ x ∧ x < n) (q : ¬ cn x < r) : cn x = r ∧ r < K ∧ rbl K rp (x + 1) (r + 1) := by
  have c := nc.2.1 x x0.1 x0.2
  have c1 := c.1
  have c2 := c.2.1
  have h1 := h.1
  have n1 : ¬ rp (cn x) < x := fun z => q ((h.2 _ c1.1 c1.2).mp z)
  have er : rp (cn x) = x := by omega
  have ec : cn x = r := by
    apply Classical.byContradiction
    intro z
    have i := nc.2.2.2.1 r (cn x) h1.1 (by omega) c1.2
    have := (h.2 r h1.1 (by omega)).mp (by omega)
    omega
  refine ⟨ec, by omega, by omega, fun c0 c00 c01 => ⟨fun z => ?_, fun z => ?_⟩⟩
  · by_cases e : rp c0 = x
    · have := (nc.2.2.1 c0 c00 c01).2
      rw [e] at this
      omega
    · have := (h.2 c0 c00 c01).mp (by omega)
      omega
  · by_cases e : c0 = r
    · rw [e, ← ec, er]; omega
    · have := (h.2 c0 c00 c01).mpr (by omega)
      omega
end
section
variable {G : List gS} {R V V' : gV} {T : gT} {B M g k p n o m b S N : Nat} {C D E : Int} {dd : gD} {ow : Nat → Nat} {us : Nat → Prop} {w : Nat → Nat} {W : gV} {L : Int → Int} {I : Int → gD} {mm pp cn rp nu : Int → Int} {K : Int}
theorem bitCount_e {x : Int} (hx : 0 ≤ x ∧ x ≤ 255) : cpI 1 (sm (fun q => dgk 2 q.toNat x) 8) 242 [(0, x)] G R V := by
  have h := bcO_all ⟨x.toNat, by omega⟩
  have h2 := bcE_all ⟨x.toNat, by omega⟩
  simp only [Int.toNat_of_nonneg hx.1] at h h2
  unfold bcO at h
  unfold bcE at h2
  dsimp only at h h2
  simp only [Bool.and_eq_true, decide_eq_true_eq] at h h2
  obtain ⟨⟨⟨⟨⟨⟨q1, q2⟩, q3⟩, q4⟩, q5⟩, q6⟩, q7⟩ := h
  exact c_J6_bitCount_0f7a4 (t_J6_bitCount_0f7a4_0 ⟨q1, q2, q3, q4, q5, ss0 h2, rfl⟩)
theorem roundOf_x (u : gT2 G R T g p n C D o m E) (lk : lkT T R g dd) (hs : hsX dd) (pd : plD dd) (th : TH T V) (w : kT G R T k) {h x : Int} (hh : 0 ≤ h ∧ h < dd 0 2) (hx : 0 ≤ x ∧ x < dd 0 0) : cwv 3 (fun r V' => ∃ v, r = some (0, v) ∧ (bmP v (fun y => ∃ t, (0 ≤ t ∧ t < dd 0 1) ∧ hsD dd h t = 1 ∧ dac dd x t = y) ∧ V' = V)) 5 [(4, (k : Int)), (4, (g : Int)), (0, h), (0, x)] G R V := by
  have e1 := lk.2.1 _ (th (g + 1) 1)
  have ct := u.t.ct _ (th (g + 1) 1)
  have hd := u.t.d0
  have H3 : dd 0 2 ≤ 300 := hs.1.2.1
  have P8 := pd.1
  have l1 : V (g + 11) h = dd 201 h := lk_j lk th 1 (by omega) (by omega) (by omega) h
  have l2 : V (g + 12) h = dd 202 h := lk_j lk th 2 (by omega) (by omega) (by omega) h
  refine c_X0_roundOf (t_X0_roundOf_0 w.ly u.ly ?_)
  refine pool2 (f := fun v i => [none, some (4, (g : Int)), some (0, h), some (0, x), some (0, v), some (0, i)]) (fun v i => (0 ≤ i ∧ i ≤ dd 0 1) ∧ bmP v (fun y => ∃ t, (0 ≤ t ∧ t < i) ∧ hsD dd h t = 1 ∧ dac dd x t = y)) (fun _ i => (120 - i).toNat) (fun v i hi ih => ?_) 0 0 ⟨by omega, bm_0 (fun y ⟨t, t0, _⟩ => by omega)⟩
  obtain ⟨i0, bm⟩ := hi
  refine t_X0_roundOf_6 u.ly (fun _ => ⟨by omega, fun z => ⟨_, rfl, bm_c bm (fun y => ⟨fun ⟨t, t0, q⟩ => ⟨t, by omega, q⟩, fun ⟨t, t0, q⟩ => ⟨t, by omega, q⟩⟩), rfl⟩, fun z => cpI_u (by omega) (holdsTurn_e u.h.a.ly (by omega) (by omega)) ?_⟩)
  have eb : bt (V (g + 10 + 1) h) (V (g + 10 + 2) h) i = hsD dd h i := by
    show bt (V (g + 11) h) (V (g + 12) h) i = bt (dd 201 h) (dd 202 h) i
    rw [l1, l2]
  rw [eb]
  have b01 : hsD dd h i = 0 ∨ hsD dd h i = 1 := bt_01 _ _ _
  refine ⟨⟨by omega, by omega⟩, fun y => ⟨by omega, ih _ _ ⟨by omega, bm_c bm (fun y' => ⟨fun ⟨t, t0, q⟩ => ⟨t, ?_, q⟩, fun ⟨t, t0, q⟩ => ⟨t, by omega, q⟩⟩)⟩ (by omega)⟩, fun y => ⟨by omega, fun _ => ?_⟩⟩
  · have : t ≠ i := fun e => by rw [e] at q; omega
    omega
  · have lc : V (g + 2) i = dd 1 i := lk.2.2.1 i _ i0.1 (by omega) (th (g + 2) i)
    rw [lc]
    have cr := pd.2.2 i i0.1 (by omega)
    have ir : 0 ≤ dg (dd 1 i) x ∧ dg (dd 1 i) x < dd 0 0 := AS_r pd.2.1 hx (g := i) ⟨i0.1, by omega⟩
    refine cpI_u (by omega) (whereTo_e cr (by omega)) ⟨by omega, ih _ _ ⟨by omega, bm_s bm (by omega) (fun y' => ⟨fun ⟨t, t0, q1, q2⟩ => ?_, fun q => ?_⟩)⟩ (by omega)⟩
    · by_cases e : t = i
      · rw [e] at q2; exact Or.inl q2.symm
      · exact Or.inr ⟨t, by omega, q1, q2⟩
    · rcases q with q | ⟨t, t0, q⟩
      · exact ⟨i, by omega, by omega, q.symm⟩
      · exact ⟨t, by omega, q⟩
/-- the size of the round of a place, by its mask -/
theorem bm_n (hs : hsX dd) (pd : plD dd) {h x v : Int} (hh : 0 ≤ h ∧ h < dd 0 2) (hx : 0 ≤ x ∧ x < dd 0 0) (nc : ncP (rE (dd 0 1) (hsD dd h) (dac dd)) (dd 0 0) K cn rp nu) (bm : bmP v (fun y => ∃ t, (0 ≤ t ∧ t < dd 0 1) ∧ hsD dd h t = 1 ∧ dac dd x t = y)) : sm (fun q => dgk 2 q.toNat v) 8 = nu (cn x) := by
  have gt := hs.2.2.2.1
  have hA := (hs.1.2.2.1 h hh.1 hh.2).1
  have P8 := pd.1
  rw [← rd_s gt pd.2.1 hA nc hx]
  have e : sm (fun q => dgk 2 q.toNat v) 8 = sm (fun y => bi (∃ t, (0 ≤ t ∧ t < dd 0 1) ∧ hsD dd h t = 1 ∧ dac dd x t = y)) 8 := sm_congr (fun y y0 y1 => by
    (try dsimp only)
    rw [← kb_e bm.1 ⟨y0, by omega⟩]
    have q := bm.2.1 y y0 (by omega)
    rcases kb_01 bm.1 (q := y) ⟨y0, by omega⟩ with z | z
    · rw [z, bi_f (fun r => by have := q.mpr r; omega)]
    · rw [z, bi_t (q.mp z)])
  rw [e, show (8 : Nat) = (dd 0 0).toNat + (8 - dd 0 0).toNat by omega, sm_app]
  rw [sm_zz (f := fun i => (fun y => bi (∃ t, (0 ≤ t ∧ t < dd 0 1) ∧ hsD dd h t = 1 ∧ dac dd x t = y)) (((dd 0 0).toNat : Int) + i)) (fun i i0 i1 => bi_f (fun ⟨t, t0, _, q⟩ => by
    have := AS_r pd.2.1 hx (g := t) t0
    (try dsimp only at this q)
    omega)), Int.add_zero]
theorem addRound_x (w : kT G R T k) {s : Int} (s0 : 1 ≤ s ∧ s ≤ 8) {f : Int → Int} (hf : ∀ y, 0 ≤ y → y ≤ 8 → V (k + 3) y = f y ∧ (0 ≤ f y ∧ f y ≤ 1000000)) : cwv 1 (fun r V' => r = none ∧ ((∀ c i, c ≠ k + 3 → V' c i = V c i) ∧ ∀ y, 0 ≤ y → y ≤ 8 → V' (k + 3) y = if s ≤ y then f y + f (y - s) else f y)) 4 [(4, (k : Int)), (0, s)] G R V := by
  refine c_X0_addRound (t_X0_addRound_0 w.ly ?_)
  refine loop1 (f := fun x => [some (4, (k : Int)), some (0, s), some (0, x)]) (Inv := fun x V' => (s - 1 ≤ x ∧ x ≤ 8) ∧ (∀ c i, c ≠ k + 3 → V' c i = V c i) ∧ ∀ y, 0 ≤ y → y ≤ 8 → V' (k + 3) y = if x < y then f y + f (y - s) else f y) (μ := fun x _ => x.toNat) (fun x V1 hx ih => ?_) 8 V ⟨by omega, fun _ _ _ => rfl, fun y y0 y1 => by rw [if_neg (by omega)]; exact (hf y y0 y1).1⟩
  obtain ⟨x0, fr, vs⟩ := hx
  refine t_X0_addRound_3 w.ly ⟨by omega, by omega, fun z => ⟨rfl, fr, fun y y0 y1 => ?_⟩, fun z => ⟨by omega, fun _ => ⟨by omega, by omega, fun _ => ⟨by omega, ih _ _ ⟨by omega, fun c i q => by rw [wr_a q]; exact fr c i q, fun y y0 y1 => ?_⟩ (by omega)⟩⟩⟩⟩
  · rw [vs y y0 y1]
    by_cases q : s ≤ y
    · rw [if_pos q, if_pos (by omega)]
    · rw [if_neg q, if_neg (by omega)]
  · by_cases q : y = x
    · have a := hf x (by omega) (by omega)
      have b := hf (x - s) (by omega) (by omega)
      rw [q, wr_same, vs x (by omega) (by omega), vs (x - s) (by omega) (by omega), if_neg (by omega), if_neg (by omega), if_pos (by omega), jadd_e ⟨by omega, by omega⟩]
    · rw [wr_i q, vs y y0 y1]
      by_cases q2 : x < y
      · rw [if_pos q2, if_pos (by omega)]
      · rw [if_neg q2, if_neg (by omega)]
theorem k3_fr {V1 : gV} (fr : ∀ c i, c ≠ k + 3 → V1 c i = V c i) : ∀ c i, ¬ (k + 1 ≤ c ∧ c ≤ k + 3) → V1 c i = V c i := fun c i q => fr c i (by omega)
theorem setsLeft_x (u : gT2 G R T g p n C D o m E) (lk : lkT T R g dd) (hs : hsX dd) (pd : plD dd) (th : TH T V) (w : kT G R T k) {h q : Int} (hh : 0 ≤ h ∧ h < dd 0 2) (hq : 0 ≤ q ∧ q ≤ 8) (nc : ncP (rE (dd 0 1) (hsD dd h) (dac dd)) (dd 0 0) K cn rp nu) : cwv 4 (fun r V' => ∃ v, r = some (2, v) ∧ (v = stC K nu q ∧ ∀ c i, c ≠ k + 3 → V' c i = V c i)) 3 [(4, (k : Int)), (4, (g : Int)), (0, h), (0, q)] G R V := by
  have gt := hs.2.2.2.1
  have hA := (hs.1.2.2.1 h hh.1 hh.2).1
  have P8 := pd.1
  have K8 := nc.1
  refine c_X0_setsLeft (t_X0_setsLeft_0 w.ly u.ly ?_)
  refine loop1 (f := fun x => [some (4, (k : Int)), some (4, (g : Int)), some (0, h), some (0, q), some (0, x)]) (Inv := fun x V' => (0 ≤ x ∧ x ≤ 9) ∧ (∀ c i, c ≠ k + 3 → V' c i = V c i) ∧ ∀ y, 0 ≤ y → y < x → V' (k + 3) y = bi (0 = y)) (μ := fun x _ => (9 - x).toNat) (fun x V1 hx ih => ?_) 0 V ⟨by omega, fun _ _ _ => rfl, fun y y0 y1 => by omega⟩
  obtain ⟨x0, fr, vs⟩ := hx
  have nx : ∀ v : Int, x ≤ 8 → v = bi (0 = x) → (0 ≤ x + 1 ∧ x + 1 ≤ 9) ∧ (∀ c i, c ≠ k + 3 → wr V1 (k + 3) x v c i = V c i) ∧ ∀ y, 0 ≤ y → y < x + 1 → wr V1 (k + 3) x v (k + 3) y = bi (0 = y) := fun v xl ev => ⟨by omega, fun c i z => by rw [wr_a z]; exact fr c i z, fun y y0 y1 => by
    by_cases z : y = x
    · rw [z, wr_same, ev]
    · rw [wr_i z]; exact vs y y0 (by omega)⟩
  refine t_X0_setsLeft_3 w.ly u.ly ⟨by omega, fun z => ?_, fun z => ⟨fun z2 => ⟨by omega, by omega, ih _ _ (nx 0 (by omega) (bi_f (fun r => z2 r.symm)).symm) (by omega)⟩, fun z2 => ⟨by omega, by omega, ih _ _ (nx 1 (by omega) (bi_t z2.symm).symm) (by omega)⟩⟩⟩
  refine loop2 (f := fun x y => [some (4, (k : Int)), some (4, (g : Int)), some (0, h), some (0, q), some (0, x), some (0, y)]) (fun x y V2 => (0 ≤ y ∧ y ≤ dd 0 0) ∧ (∀ c i, c ≠ k + 3 → V2 c i = V c i) ∧ (0 ≤ x ∧ x < 256) ∧ ∃ r, rbl K rp y r ∧ (∀ z, 0 ≤ z → z < 8 → (kand (kshr x z) 1 = 1 ↔ (z < dd 0 0 ∧ cn z < r))) ∧ ∀ s, 0 ≤ s → s ≤ 8 → V2 (k + 3) s = stC r nu s) (fun _ y _ => (8 - y).toNat) (fun x y V2 hx ih2 => ?_) 0 0 V1 ⟨by omega, fr, by omega, 0, rb_0 nc, fun z z0 z1 => ?_, fun s s0 s1 => by rw [vs s s0 (by omega), st_0]⟩
  rotate_left
  · have q0 := (bm_0 (Q := fun _ => False) (fun _ => id)).2.1 z z0 z1
    refine ⟨fun e => absurd (q0.mp e) id, fun e => ?_⟩
    have := (nc.2.1 z z0 e.1).1
    omega
  obtain ⟨y0, fr2, xr, r, rb, mk, ws⟩ := hx
  have th2 := TH_k w th (k3_fr fr2)
  have e0 := lk.1 _ (th2 (g + 1) 0)
  have r1 := rb.1
  refine t_X0_setsLeft_39 w.ly u.ly (fun _ => ⟨by omega, fun z2 => ⟨by omega, fun _ => ⟨_, rfl, ?_, fr2⟩⟩, fun z2 => ⟨fun z3 => ⟨by omega, ih2 _ _ _ ⟨by omega, fr2, xr, r, ?_, mk, ws⟩ (by omega)⟩, fun z3 => ?_⟩⟩)
  · rw [ws q hq.1 hq.2, rb_e nc rb (by omega)]
  · have b := kb_01 xr (q := y) (by omega)
    exact rb_m nc rb (by omega) ((mk y y0.1 (by omega)).mp (by omega)).2
  · have nm : ¬ cn y < r := fun z4 => by have := (mk y y0.1 (by omega)).mpr ⟨by omega, z4⟩; omega
    obtain ⟨ec, rK, rb2⟩ := rb_n nc rb (x := y) (by omega) nm
    refine cwI_u (by omega) (roundOf_x u lk hs pd th2 w hh (x := y) (by omega)) (fun v V3 h3 => ?_)
    obtain ⟨bm, ev⟩ := h3
    rw [ev]
    have bn := bm_n hs pd hh (by omega) nc bm
    have vr := bm.1
    have nr := nc_nu nc (by omega) (c := r) (by omega)
    refine cpI_u (by omega) (bitCount_e (x := v) (by omega)) ?_
    rw [bn, ec]
    refine cwv_mono (show 1 ≤ 3 by omega) (addRound_x w (s := nu r) (by omega) (f := fun s => stC r nu s) (fun s s0 s1 => ⟨ws s s0 s1, by have := st_r (nu := nu) (q := s) (r := r) (by omega); (try dsimp only); omega⟩)) (fun r' V4 h4 => ⟨h4.1, by omega, ih2 _ _ _ ⟨by omega, fun c i z => by rw [h4.2.1 c i z]; exact fr2 c i z, (bm.2.2 x xr).1, r + 1, rb2, fun z z0 z1 => ?_, fun s s0 s1 => ?_⟩ (by omega)⟩)
    · rw [(bm.2.2 x xr).2 z z0 z1, mk z z0 z1]
      constructor
      · intro t
        rcases t with t | ⟨t, t0, t1, t2⟩
        · exact ⟨t.1, by omega⟩
        · have zr := AS_r pd.2.1 (x := y) (g := t) (by omega) t0
          (try dsimp only at zr t2)
          have zr2 : 0 ≤ z ∧ z < dd 0 0 := by omega
          have cz := (rd_x gt pd.2.1 hA nc (x := y) (y := z) (by omega) zr2).mp ⟨t, t0, t1, t2⟩
          exact ⟨zr2.2, by omega⟩
      · intro t
        by_cases e : cn z < r
        · exact Or.inl ⟨t.1, e⟩
        · exact Or.inr ((rd_x gt pd.2.1 hA nc (x := y) (y := z) (by omega) ⟨z0, t.1⟩).mpr (by omega))
    · rw [h4.2.2 s s0 s1, st_s r1.1]
      by_cases e : nu r ≤ s
      · rw [if_pos e]
      · rw [if_neg e, st_n (nu := nu) (q := s - nu r) (r := r) (fun j j0 j1 => by have := nc_nu nc (by omega) (c := j) (by omega); omega) (by omega), Int.add_zero]
theorem rowsLeft_x (u : gT2 G R T g p n C D o m E) (lk : lkT T R g dd) (hs : hsX dd) (pd : plD dd) (th : TH T V) (w : kT G R T k) {h q : Int} (hh : 0 ≤ h ∧ h < dd 0 2) (hq : 0 ≤ q ∧ q ≤ 8) (nc : ncP (rE (dd 0 1) (hsD dd h) (dac dd)) (dd 0 0) K cn rp nu) : cwv 4 (fun r V' => ∃ v, r = some (2, v) ∧ (v = rwP (sm (fun c => bi (nu c = 1)) K.toNat) q ∧ V' = V)) 6 [(4, (k : Int)), (4, (g : Int)), (0, h), (0, q)] G R V := by
  have gt := hs.2.2.2.1
  have hA := (hs.1.2.2.1 h hh.1 hh.2).1
  have P8 := pd.1
  have e0 := lk.1 _ (th (g + 1) 0)
  rw [← (one_n gt pd.2.1 hA nc).2]
  have Fr := fun x x0 => sm_b01 (f := fun y => nu (cn y) = 1) x x0
  refine c_X0_rowsLeft (t_X0_rowsLeft_0 w.ly u.ly ?_)
  refine pool2 (f := fun x y => [some (4, (k : Int)), some (4, (g : Int)), some (0, h), some (0, q), some (0, x), some (0, y)]) (fun x y => (0 ≤ y ∧ y ≤ dd 0 0) ∧ x = sm (fun y => bi (nu (cn y) = 1)) y.toNat) (fun _ y => (8 - y).toNat) (fun x y hx ih => ?_) 0 0 ⟨by omega, rfl⟩
  obtain ⟨y0, ex⟩ := hx
  have s := sm_s (fun y => bi (nu (cn y) = 1)) (x := y) y0.1
  have fr := Fr y y0.1
  (try dsimp only at s)
  refine t_X0_rowsLeft_6 w.ly u.ly (fun _ => ⟨by omega, fun z => ?_, fun z => ?_⟩)
  · rw [show y = dd 0 0 by omega] at ex fr
    rw [← ex] at fr ⊢
    have fr8 : 0 ≤ x ∧ x ≤ 8 := by omega
    refine pool2 (f := fun v i => [none, none, none, some (0, q), some (0, x), some (2, v), none, some (0, i)]) (fun v i => (0 ≤ i ∧ i ≤ q) ∧ v = rwP x i) (fun _ i => (q - i).toNat) (fun v i hi ih2 => ?_) 1 0 ⟨by omega, rfl⟩
    obtain ⟨i0, ev⟩ := hi
    refine t_X0_rowsLeft_48 ⟨by omega, by omega, fun z2 => ⟨_, rfl, by rw [ev, show i = q by omega], rfl⟩, fun z2 => ⟨by omega, by omega, ih2 _ _ ⟨by omega, ?_⟩ (by omega)⟩⟩
    have e1 : rwP x (i + 1) = rwP x i * (if i < x then x - i else 0) := by
      unfold rwP
      rw [pr_s _ i0.1]
    have e2 : (if 0 < x - i then x - i else 0) = (if i < x then x - i else 0) := by
      by_cases t : i < x
      · rw [if_pos t, if_pos (by omega)]
      · rw [if_neg t, if_neg (by omega)]
    have b := rwP_r (f := x) (k := i + 1) fr8
    have p8 := pow_mono (b := 8) (by omega) (show (i + 1).toNat ≤ 8 by omega)
    have e8 : (8 : Int) ^ 8 = 16777216 := by decide
    rw [e1] at b
    rw [ev, e2, jmul_e ⟨by omega, by omega⟩, e1]
  · refine cwI_u (by omega) (roundOf_x u lk hs pd th w hh (x := y) (by omega)) (fun v V3 h3 => ?_)
    obtain ⟨bm, ev⟩ := h3
    rw [ev]
    have bn := bm_n hs pd hh (by omega) nc bm
    have vr := bm.1
    have cy := (nc.2.1 y y0.1 (by omega)).1
    have nr := nc_nu nc (by omega) cy
    refine cpI_u (by omega) (bitCount_e (x := v) (by omega)) ?_
    rw [bn]
    refine ⟨⟨by omega, by omega⟩, fun z2 => ⟨by omega, ih _ _ ⟨by omega, ?_⟩ (by omega)⟩, fun z2 => ⟨by omega, by omega, ih _ _ ⟨by omega, ?_⟩ (by omega)⟩⟩
    · rw [s, bi_f z2, ex, Int.add_zero]
    · rw [s, bi_t z2, ex]
theorem takePlaces_x (w : kT G R T k) (u : gT2 G R T g p n C D o m E) (lk : lkT T R g dd) (hs : hsX dd) (pd : plD dd) (th : TH T V) {q v : Int} (hq : 0 ≤ q ∧ q ≤ 8) (hv : i32 v) (tg : tbG (dd 0 3) (tbD dd)) (hm : ∀ d, 0 ≤ d → d < dd 0 3 → ∃ K cn rp nu, ncP (rE (dd 0 1) (hsD dd (dd 207 d)) (dac dd)) (dd 0 0) K cn rp nu ∧ plV K nu v q = mm d) (pg : prtP (dd 0 3) (tbD dd) mm pp) : cwv 5 (fun r V' => r = none ∧ mkrP V V' k (dd 0 3) mm pp) 2 [(4, (k : Int)), (4, (g : Int)), (0, q), (0, v)] G R V := by
  have e3 := lk_3 lk th
  have c0 := u.h.a.cl _ (th (g + 10) 1)
  have cl := hs.2.2.2.2.1
  have bd := prt_b tg pg
  have m0 := pg.2.2
  refine c_X0_takePlaces (t_X0_takePlaces_0 w.ly u.ly ?_)
  refine loop1 (f := fun i => [some (4, (k : Int)), some (4, (g : Int)), some (0, q), some (0, v), some (0, i)]) (Inv := fun i V' => (0 ≤ i ∧ i ≤ dd 0 3) ∧ mk1P V V' k i mm) (μ := fun i _ => (300 - i).toNat) (fun i V1 hi ih => ?_) 0 V ⟨by omega, fun _ _ _ => rfl, fun d d0 d1 => by omega⟩
  obtain ⟨i0, mp⟩ := hi
  have th1 := TH_k w th mp.1
  have e31 := lk_3 lk th1
  refine t_X0_takePlaces_3 w.ly u.ly (fun _ => ⟨by omega, fun z => cwI_u (by omega) (fillParts_y w u.h lk th1 (fun d d0 d1 => mp.2 d d0 (by omega)) tg pg) (fun v V2 h2 => ⟨rfl, mk1_f mp (by omega) h2⟩), fun z => ⟨by omega, fun _ => ⟨hv, fun z2 => ?_, fun z2 => ?_⟩⟩⟩)
  all_goals (
    have l7 : V1 (g + 17) i = dd 207 i := lk_j lk th1 7 (by omega) (by omega) (by omega) i
    rw [l7]
    have f := (cl.2.2.1 i i0.1 (by omega)).1
    obtain ⟨K, cn, rp, nu, nc, em⟩ := hm i i0.1 (by omega)
    have bi' := bd i i0.1 (by omega))
  · have em' : rwP (sm (fun c => bi (nu c = 1)) K.toNat) q = mm i := by rw [← em]; unfold plV; rw [if_neg z2]
    refine cwJ_u (by omega) (rowsLeft_x u lk hs pd th1 w f hq nc) (fun v2 V2 h2 => ?_)
    obtain ⟨e2, ev⟩ := h2
    rw [ev, e2, em']
    exact ⟨⟨by omega, by omega⟩, by omega, ih _ _ ⟨by omega, mk1_s mp (fun _ _ _ => rfl) rfl⟩ (by omega)⟩
  · have em' : stC K nu q = mm i := by rw [← em]; unfold plV; rw [if_pos z2]
    refine cwJ_u (by omega) (setsLeft_x u lk hs pd th1 w f hq nc) (fun v2 V2 h2 => ?_)
    obtain ⟨e2, fr⟩ := h2
    rw [e2, em']
    exact ⟨⟨by omega, by omega⟩, by omega, ih _ _ ⟨by omega, mk1_s mp (fun c j y => fr c j y) rfl⟩ (by omega)⟩
theorem places_K (h : CI G R V B M S N W L I) (k5 : I 23 5 0 = I 3 0 3) (K1 : 1 ≤ I 3 0 3) (tg : tbG (I 3 0 3) (tbD (I 3))) (hs : hsX (I 3)) (pd : plD (I 3)) {a q v : Int} (ha : i32 a) (hq : i32 q) (hv : i32 v) (hm : plO a q v (I 3 0 0) → ∀ d, 0 ≤ d → d < I 3 0 3 → ∃ K cn rp nu, ncP (rE (I 3 0 1) (hsD (I 3) (I 3 207 d)) (dac (I 3))) (I 3 0 0) K cn rp nu ∧ plV K nu v q = mm d) (pg : plO a q v (I 3 0 0) → prtP (I 3 0 3) (tbD (I 3)) mm pp) : cw 8 (fun r G' R' V' => qM B M S N W L I (kpJ I a mm pp) (plX a q v (I 3 0 0) (mm 0)) (plO a q v (I 3 0 0)) G' R' r V') 120 [(4, (B : Int)), (0, a), (0, q), (0, v)] G R V := by
  obtain ⟨T, ow, us, w, c0, hN⟩ := h
  obtain ⟨g, p, n, C, D, o, m, E, u, lk⟩ := cI_cTl c0
  have e0 : V (g + 1) 0 = I 3 0 0 := lk.1 _ (c0.th _ _)
  have P8 := pd.1
  refine cwv_cw (P := fun G R => qM B M S N W L I (kpJ I a mm pp) (plX a q v (I 3 0 0) (mm 0)) (plO a q v (I 3 0 0)) G R) ?_
  have rf : ¬ plO a q v (I 3 0 0) → cwv 7 (fun r V' => ∃ v' : Int, r = some (0, v') ∧ (i32 v' ∧ qM B M S N W L I (kpJ I a mm pp) (plX a q v (I 3 0 0) (mm 0)) (plO a q v (I 3 0 0)) G R (some (2, v')) V')) 138 [(4, (B : Int)), (0, (-1))] G R V := fun z => qM_r c0 hN z (by omega) (by unfold plX; exact (if_neg z).symm)
  refine c_X7_places (t_X7_places_0 u.ly (bI_u (isActNumber_c ha) ⟨bi32 _, fun z => rf (fun y => bi_0.mp z y.1.1), fun z => ⟨hq, fun z2 => rf (fun y => by have := y.1.2; omega), fun z2 => ⟨B + 52, ⟨u.rb, u.u.b.ly⟩, g, ⟨u.u.rg, u.u.g.ly⟩, fun _ => ⟨fun z3 => rf (fun y => by have := y.1.2; omega), fun z3 => bI_u (isWay_e hv) ⟨bi32 _, fun z4 => ?_, fun z4 => rf (fun y => bi_0.mp z4 y.2)⟩⟩⟩⟩⟩))
  have a0 := bi_nz z
  have ok : plO a q v (I 3 0 0) := ⟨⟨a0, by omega⟩, bi_nz z4⟩
  exact cwv_mono (show 5 ≤ 7 by omega) (takePlaces_x u.k u.u.g lk hs pd c0.th (by omega) hv tg (hm ok) (pg ok)) (fun r V1 h1 => ⟨h1.1, qM_k c0 hN k5 K1 a0 ok (by unfold plX; exact (if_pos ok).symm) h1.2⟩)
end
