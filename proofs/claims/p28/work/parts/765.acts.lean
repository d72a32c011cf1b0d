/-! acts, class and reference side by side -/
abbrev aF (V : gV) (a : Int) : Int := fl (fun i => V (57 + 21) i) a
noncomputable def jxCount (V : gV) (x : Int) : Int := cnX x (V 57 4) (V 57 5) (V 57 12) (V 57 13) (sm (fun i => V (57 + 21) i) (8 : Int).toNat) (V 57 35)
noncomputable def jxParts (V : gV) (a c : Int) : Int := rdX (aF V a) (V 57 13) c (V (57 + 22) (300 * a + c))
noncomputable def jxMark (V : gV) (a c : Int) : Int := rdX (aF V a) (V 57 13) c (mmk V 57 a c)
noncomputable def jxSame (V : gV) (a b : Int) : Int := saX (aF V a) (aF V b) (V 57 13) (fun d => mmk V 57 a d) (fun d => mmk V 57 b d)
noncomputable def jxMaps (V : gV) (a b w : Int) : Int := moX (aF V a) (aF V b) w (V 57 13) (fun d => mmk V 57 a d) (fun d => mmk V 57 b d) (mpt V 57 a) (fun c => mtb V 57 c c)
noncomputable def jxAct (V : gV) (a wh x : Int) : Int := acX (aF V a) wh x (V 57 13) (V 57 5) (V 57 12) (fun d => mmk V 57 a d) (mpt V 57 a) (fun c => V (57 + 15) c) (fun h => V (57 + 14) h) (rmb V 57) (rdR V 57 (fun d => mmk V 57 a d))
noncomputable def jxHeaps (V : gV) (a : Int) : Int := heX a (V 57 12)
noncomputable def jxPlaces (V : gV) (a k w : Int) : Int := plX a k w (V 57 4) (plF V 57 w k 0)
noncomputable def jxBoth (V : gV) (a b c w : Int) : Int := boX (aF V b) (aF V c) (mmk V 57 b 0) (mmk V 57 c 0) a w
noncomputable def jxColour (V : gV) (a b k : Int) : Int := cuX (aF V b) (mmk V 57 b 0) a k
noncomputable def jxMany (V : gV) (a b k : Int) : Int := mnX (aF V b) (mmk V 57 b 0) a k
theorem prt_x {K : Int} {tb tb' : Int → Int → Int} {mm mm' pp pp' : Int → Int} (K0 : 0 < K) (e1 : ∀ c d, 0 ≤ c → c < K → 0 ≤ d → d < K → tb c d = tb' c d) (e2 : ∀ d, 0 ≤ d → d < K → mm d = mm' d) (e3 : ∀ c, 0 ≤ c → c < K → pp c = pp' c) (h : prtP K tb mm pp) : prtP K tb' mm' pp' := ⟨fun c c0 c1 => by rw [← e3 c c0 c1]; exact h.1 c c0 c1, fun d d0 d1 => by
  rw [← e2 d d0 d1, h.2.1 d d0 d1]
  exact sm_congr (fun c c0 c1 => by (try dsimp only); rw [e1 c d c0 (by omega) d0 d1, e3 c c0 (by omega)]), by rw [← e2 0 (by omega) K0]; exact h.2.2⟩
theorem sdP_c {K : Int} {m1 m2 m1' m2' : Int → Int} (e1 : ∀ d, 0 ≤ d → d < K → m1 d = m1' d) (e2 : ∀ d, 0 ≤ d → d < K → m2 d = m2' d) : sdP K m1 m2 = sdP K m1' m2' := by
  have key : ∀ {m1 m2 m1' m2' : Int → Int}, (∀ d, 0 ≤ d → d < K → m1 d = m1' d) → (∀ d, 0 ≤ d → d < K → m2 d = m2' d) → ∀ v, sdP K m1 m2 v → sdP K m1' m2' v := fun {m1 m2 m1' m2'} e1 e2 v q => by
    rcases q with ⟨a, b⟩ | ⟨a, b, c⟩
    · exact Or.inl ⟨a, fun d d0 d1 => by rw [← e1 d d0 d1, ← e2 d d0 d1]; exact b d d0 d1⟩
    · exact Or.inr ⟨a, by rw [← e1 v a.1 a.2, ← e2 v a.1 a.2]; exact b, fun d d0 d1 => by rw [← e1 d d0 (by omega), ← e2 d d0 (by omega)]; exact c d d0 d1⟩
  funext v
  exact propext ⟨key e1 e2 v, key (fun d d0 d1 => (e1 d d0 d1).symm) (fun d d0 d1 => (e2 d d0 d1).symm) v⟩
theorem idP_c {K : Int} {mk mk' fo fo' : Int → Int} (K0 : 0 < K) (e1 : ∀ d, 0 ≤ d → d < K → mk d = mk' d) (e2 : ∀ d, 0 ≤ d → d < K → fo d = fo' d) : idP K mk fo = idP K mk' fo' := by
  have key : ∀ {mk mk' fo fo' : Int → Int}, (∀ d, 0 ≤ d → d < K → mk d = mk' d) → (∀ d, 0 ≤ d → d < K → fo d = fo' d) → ∀ v, idP K mk fo v → idP K mk' fo' v := fun {mk mk' fo fo'} e1 e2 v q => by
    have z := e1 0 (by omega) K0
    rcases q with ⟨c, c0, a, b, d⟩ | ⟨a, b⟩
    · exact Or.inl ⟨c, c0, by rw [← e1 c (by omega) c0.2, ← z]; exact a, fun e e0 e1' => by rw [← e1 e (by omega) e1', ← z]; exact b e e0 e1', by rw [← e2 c (by omega) c0.2]; exact d⟩
    · exact Or.inr ⟨fun c c0 c1 => by rw [← e1 c (by omega) c1, ← z]; exact a c c0 c1, b⟩
  funext v
  exact propext ⟨key e1 e2 v, key (fun d d0 d1 => (e1 d d0 d1).symm) (fun d d0 d1 => (e2 d d0 d1).symm) v⟩
section
variable {G : List gS} {R V : gV} {k y z : Nat} {L' : Int → Int} {I' : Int → gD} {dd : Int → gD} {a b : Int}
theorem eV {V1 : gV} (l : ∀ a i, 57 ≤ a → a ≤ 92 → V1 a i = V a i) (c : Nat) (h : c ≤ 35) : V1 (57 + c) = V (57 + c) := funext (fun i => l _ _ (by omega) (by omega))
theorem e0V {V1 : gV} (l : ∀ a i, 57 ≤ a → a ≤ 92 → V1 a i = V a i) : V1 57 = V 57 := funext (fun i => l _ _ (by omega) (by omega))
theorem mmk_e {V1 : gV} (l : ∀ a i, 57 ≤ a → a ≤ 92 → V1 a i = V a i) : mmk V1 57 = mmk V 57 := by
  funext a d
  unfold mmk
  rw [e0V l, eV l 22 (by omega), eV l 18 (by omega)]
theorem mpt_e {V1 : gV} (l : ∀ a i, 57 ≤ a → a ≤ 92 → V1 a i = V a i) : mpt V1 57 = mpt V 57 := funext (fun a => funext (fun c => l _ _ (by omega) (by omega)))
theorem mtb_e {V1 : gV} (l : ∀ a i, 57 ≤ a → a ≤ 92 → V1 a i = V a i) : mtb V1 57 = mtb V 57 := funext (fun c => funext (fun d => l _ _ (by omega) (by omega)))
theorem pac_e {V1 : gV} (l : ∀ a i, 57 ≤ a → a ≤ 92 → V1 a i = V a i) : pac V1 57 = pac V 57 := funext (fun c => funext (fun d => l _ _ (by omega) (by omega)))
theorem rmb_e {V1 : gV} (l : ∀ a i, 57 ≤ a → a ≤ 92 → V1 a i = V a i) : rmb V1 57 = rmb V 57 := by
  funext t
  unfold rmb
  rw [e0V l, has_e l]
theorem rdR_e {V1 : gV} (l : ∀ a i, 57 ≤ a → a ≤ 92 → V1 a i = V a i) : rdR V1 57 = rdR V 57 := by
  funext mk h
  unfold rdR
  rw [e0V l, has_e l, rmb_e l, eV l 14 (by omega), eV l 10 (by omega)]
theorem hfx_e {V1 : gV} (l : ∀ a i, 57 ≤ a → a ≤ 92 → V1 a i = V a i) : hfx V1 57 = hfx V 57 := by
  funext d
  unfold hfx
  rw [e0V l, has_e l, (mm_e l).1, (mm_e l).2, eV l 15 (by omega)]
theorem plF_e {V1 : gV} (l : ∀ a i, 57 ≤ a → a ≤ 92 → V1 a i = V a i) : plF V1 57 = plF V 57 := by
  funext w k d
  unfold plF
  rw [e0V l, has_e l, pac_e l, (mm_e l).2, eV l 15 (by omega)]
theorem aR_e {V1 : gV} (l : ∀ a i, 57 ≤ a → a ≤ 92 → V1 a i = V a i) (h : aR V 57 a) : aR V1 57 a := by
  unfold aR at h ⊢
  rw [mmk_e l, e0V l, eV l 22 (by omega)]
  exact h
theorem fl_m (rf : rfD V dd) (a : Int) : fl (mI V dd 23 2) a = aF V a := by
  show fl (mI V dd 23 2) a = fl (fun i => V (57 + 21) i) a
  unfold fl
  by_cases q : 0 ≤ a ∧ a < 8
  · rw [if_pos q, if_pos q, mI_23, rwB_a (by omega)]
    exact (rf.2.2.1.2 a q.1 q.2).1
  · rw [if_neg q, if_neg q]
/-- act a on both sides -/
theorem aR_m (hm : MI V 57) (rf : rfD V dd) (f : aF V a = 1) : aR V 57 a ∧ ∀ d, 0 ≤ d → d < V 57 13 → mI V dd 23 3 (300 * a + d) = mmk V 57 a d ∧ mI V dd 23 4 (300 * a + d) = V (57 + 22) (300 * a + d) := by
  obtain ⟨CC, tb⟩ := tb_m hm rf
  have n := MI_N hm
  obtain ⟨a0, t⟩ := fl_1 f
  obtain ⟨q1, q2⟩ := rf.2.2.1.2 a a0.1 a0.2
  obtain ⟨r1, r2⟩ := q2 t
  have mk : ∀ d, 0 ≤ d → d < V 57 13 → dd 33 3 (300 * a + d) = mmk V 57 a d := fun d d0 d1 => by
    have s := (r1 d d0 (by rw [CC]; exact d1)).2.2
    rw [s, CC]
    refine sm_congr (fun y y0 y1 => ?_)
    show V 79 (300 * a + y) * tbD (dd 3) y d = V 79 (300 * a + y) * mtb V 57 y d
    rw [tb y d y0 (by omega) d0 d1]
  refine ⟨⟨fun c c0 c1 => (r1 c c0 (by rw [CC]; exact c1)).1, ?_⟩, fun d d0 d1 => ⟨?_, ?_⟩⟩
  · rw [← mk 0 (by omega) (by omega)]; exact r2
  · rw [mI_23, rwB_a (by omega)]; exact mk d d0 d1
  · rw [mI_23, rwB_a (by omega)]; exact (r1 d d0 (by rw [CC]; exact d1)).2.1
theorem K1_m (hm : MI V 57) (rf : rfD V dd) : 1 ≤ mI V dd 3 0 3 := by
  obtain ⟨CC, _⟩ := tb_m hm rf
  have n := MI_N hm
  rw [mI_3, CC]; omega
theorem tg_m (hm : MI V 57) (rf : rfD V dd) : tbG (mI V dd 3 0 3) (tbD (mI V dd 3)) := by
  obtain ⟨CC, tb⟩ := tb_m hm rf
  rw [mI_3, CC]
  exact tbG_c (fun c d c0 c1 d0 d1 => (tb c d c0 c1 d0 d1).symm) (mtg hm)
theorem hs_m (rf : rfD V dd) : hsX (mI V dd 3) := by rw [mI_3]; exact rf.1.2.2.2.2
/-- parts, from the reference's table to the class's -/
theorem pg_m (hm : MI V 57) (rf : rfD V dd) {mm mm' pp pp' : Int → Int} (e2 : ∀ d, 0 ≤ d → d < V 57 13 → mm d = mm' d) (e3 : ∀ c, 0 ≤ c → c < V 57 13 → pp c = pp' c) (h : prtP (V 57 13) (mtb V 57) mm pp) : prtP (mI V dd 3 0 3) (tbD (mI V dd 3)) mm' pp' := by
  obtain ⟨CC, tb⟩ := tb_m hm rf
  have n := MI_N hm
  rw [mI_3, CC]
  exact prt_x (by omega) (fun c d c0 c1 d0 d1 => (tb c d c0 c1 d0 d1).symm) e2 e3 h
theorem aC_m (hm : MI V 57) (rf : rfD V dd) (f : fl (mI V dd 23 2) a = 1) : aC (mI V dd) a := by
  rw [fl_m rf] at f
  obtain ⟨ar, e⟩ := aR_m hm rf f
  exact pg_m hm rf (fun d d0 d1 => (e d d0 d1).1.symm) (fun d d0 d1 => (e d d0 d1).2.symm) (aR_p ar)
/-- a maker, on both sides -/
theorem j_put (h : JS G R V k) (hk : k < 512) {as : List zV} {a X : Int} {ok : Prop} (H : ∀ dd, MI V 57 → rfD V dd → CI G R V 0 57 S0 (93 + 117 * k) V (mL V) (mI V dd) → ∃ mk p p' : Int → Int, (ok → (0 ≤ a ∧ a < 8) ∧ prtP (mI V dd 3 0 3) (tbD (mI V dd 3)) mk p ∧ ∀ c, 0 ≤ c → c < V 57 13 → p c = p' c) ∧ cw 8 (fun r G' R' V' => qM 0 57 S0 (93 + 117 * k) V (mL V) (mI V dd) (kpJ (mI V dd) a mk p) X ok G' R' r V') y ((4, ((0 : Nat) : Int)) :: as) G R V ∧ ∀ (G1 : List gS) (R1 V1 : gV), lay8 G1 R1 57 → MI V1 57 → (∀ a i, 57 ≤ a → a ≤ 92 → V1 a i = V a i) → cwv 8 (rqM V1 57 a X ok p') z ((4, ((57 : Nat) : Int)) :: as) G1 R1 V1) : jR (qK X) (qK X) k y z as G R V := by
  refine jp h hk (P := fun dd L' I' => MI V 57 ∧ ∃ mk p p' : Int → Int, (ok → (0 ≤ a ∧ a < 8) ∧ prtP (mI V dd 3 0 3) (tbD (mI V dd 3)) mk p ∧ ∀ c, 0 ≤ c → c < V 57 13 → p c = p' c) ∧ (∀ (G1 : List gS) (R1 V1 : gV), lay8 G1 R1 57 → MI V1 57 → (∀ a i, 57 ≤ a → a ≤ 92 → V1 a i = V a i) → cwv 8 (rqM V1 57 a X ok p') z ((4, ((57 : Nat) : Int)) :: as) G1 R1 V1) ∧ L' = mL V ∧ ((¬ ok ∧ I' = mI V dd) ∨ (ok ∧ I' = kpJ (mI V dd) a mk p))) (fun dd c hm rf => ?_) (fun dd L' I' G1 R1 V1 rf hp ly m vr l => ?_)
  · obtain ⟨mk, p, p', h1, h2, h3⟩ := H dd hm rf c
    refine cw_mono (Nat.le_refl _) h2 (fun r G' R' V' q => ?_)
    obtain ⟨q1, q2, q3⟩ := q
    by_cases o : ok
    · exact ⟨q1, _, _, CI_N (q3 o) (by omega), hm, mk, p, p', h1, h3, rfl, Or.inr ⟨o, rfl⟩⟩
    · exact ⟨q1, _, _, CI_N (q2 o) (by omega), hm, mk, p, p', h1, h3, rfl, Or.inl ⟨o, rfl⟩⟩
  · obtain ⟨hm, mk, p, p', h1, h3, eL, eI⟩ := hp
    have n := MI_N hm
    refine cwv_mono (Nat.le_refl _) (h3 G1 R1 V1 ly m l) (fun r V' q => ?_)
    obtain ⟨v, q1, q2, q3, q4⟩ := q
    rw [q1, q2]
    rcases eI with ⟨o, eI⟩ | ⟨o, eI⟩
    · exact ⟨rfl, jm (q3 o) l rf ⟨eL, eI⟩⟩
    · obtain ⟨a0, pg, ep⟩ := h1 o
      have rp := q4 o
      obtain ⟨p1, p2, p3, p4⟩ := mP_o m rp.1
      obtain ⟨k1, k2, k3, k4⟩ := mK_o rp.1
      obtain ⟨CC, tb⟩ := tb_m hm rf
      have e13 : V1 57 13 = V 57 13 := l _ _ (by omega) (by omega)
      have rr : ∀ b i, rwC 57 b i → b ≠ 78 → b ≠ 79 → V' b i = V b i := fun b i z n1 n2 => (mR_o rp.1 z ⟨n1, n2⟩).trans (l _ _ (by omega) (by omega))
      have e85 : ∀ i, V' 85 i = V 85 i := fun i => (p4 i).trans (l _ _ (by omega) (by omega))
      have e84 : ∀ i, V' 84 i = V 84 i := fun i => rr 84 i (by omega) (by omega) (by omega)
      have ac : ∀ a i, (89 ≤ a ∧ a ≤ 92) → V' a i = V a i := fun a i y => rr a i (by omega) (by omega) (by omega)
      have e35 : V' 57 35 = V 57 35 := rr 57 35 (by omega) (by omega) (by omega)
      have e8 : ∀ a i, 85 ≤ a → a ≤ 88 → V' a i = V a i := fun a i a0 a1 => by
        by_cases q : a = 85
        · rw [q]; exact e85 i
        · exact (k4 a i (by omega) (by omega)).trans (l _ _ (by omega) (by omega))
      have ak : ∀ k, 0 ≤ k → k < 3 → V' 85 k = 1 → rA (dd (30 + k)) (dd k) (fun a => V' 89 (8 * k + a)) (fun i => V' 90 (2400 * k + i)) := fun k' k0 k1' z => by
        rw [e85] at z
        exact rA_c (fun a _ _ => ac 89 _ (by omega)) (fun i _ _ => ac 90 _ (by omega)) (rf.2.2.2.1 k' k0 k1' z)
      have ro : rwO V' := ⟨fun i i0 i1 => by rw [e35] at i1; rw [e84]; exact rf.2.2.2.2.1 i i0 i1, fun k' k0 k1' z => by
        rw [e85] at z
        rw [ac 91 _ (by omega)]
        exact ⟨(rf.2.2.2.2.2 k' k0 k1' z).1, fun i i0 i1 => by rw [ac 92 _ (by omega)]; exact (rf.2.2.2.2.2 k' k0 k1' z).2 i i0 i1⟩⟩
      have eK : ∀ (f : gD) j, rwK V' f j = rwK V f j := fun f j => rwK_e (ac 91 _ (by omega)) (fun i _ _ => ac 92 _ (by omega))
      rw [mI_3] at pg
      have ra : rA (kp (dd 33) a mk p) (dd 3) (fun a => V' 78 a) (fun i => V' 79 i) := by
        refine rA_put (p := p) a0 rf.2.2.1 pg.1 pg.2.1 pg.2.2 (fun i => ?_) (fun i => ?_)
        · have q : V' 78 i = if i = a then 1 else V1 78 i := rp.2.1 i
          rw [l 78 i (by omega) (by omega)] at q
          exact q
        · have q : V' 79 i = if 300 * a ≤ i ∧ i < 300 * a + V1 57 13 then p' (i - 300 * a) else V1 79 i := rp.2.2 i
          rw [l 79 i (by omega) (by omega), e13] at q
          rw [CC]
          refine Eq.trans q ?_
          by_cases y : 300 * a ≤ i ∧ i < 300 * a + V 57 13
          · rw [if_pos y, if_pos y]; exact (ep _ (by omega) (by omega)).symm
          · rw [if_neg y, if_neg y]
      refine ⟨rfl, p1, p2, ?_, fun j => if j = 33 then kp (dd 33) a mk p else dd j, ?_, ?_⟩
      · rw [eL]
        exact mL_e (fun a i a0 a1 => (p3 a i (by omega) (by omega)).trans (l a i (by omega) (by omega))) (rr 57 37 (by omega) (by omega) (by omega))
      · rw [eI]
        refine mI_x (fun j j1 => ?_) (fun j j0 j1 => ?_) ?_ (fun j j0 j1 => ?_)
        · unfold kpJ
          rw [if_neg (by omega), if_neg (by omega), mI_k j1]
        · unfold kpJ
          rw [if_neg (by omega), mI_j ⟨j0, j1⟩, e85]
        · unfold kpJ
          rw [if_pos rfl, if_pos rfl, mI_23]
          funext a' i
          by_cases a2 : 2 ≤ a'
          · rw [rwB_a a2]
            refine kp_g ?_
            rw [rwB_a a2]
          · rw [kp_o (by omega) (by omega) (by omega)]
            unfold rwB
            by_cases q : a' = 0
            · rw [if_pos q, if_pos q, e35]
            · rw [if_neg q, if_neg q, e84]
              by_cases q1 : a' = 1
              · rw [if_pos q1, if_pos q1]
              · rw [if_neg q1, if_neg q1]
                unfold kp
                rw [if_neg (by omega), if_neg (by omega), if_neg (by omega)]
        · unfold kpJ
          rw [if_neg j1, if_neg (by omega), mI_20 j0 j1]
          exact eK _ _
      · refine rfD_r (dd := fun j => if j = 33 then kp (dd 33) a mk p else dd j) (V := V) (by (try dsimp only); rw [if_neg (by omega)]; exact rf.1) (k1.trans (l _ _ (by omega) (by omega))) (k2.trans (l _ _ (by omega) (by omega))) (fun i => (k3 i).trans (l _ _ (by omega) (by omega))) e8 (fun k' k0 k1' z => by (try dsimp only); rw [if_neg (by omega)]; exact rf.2.1 k' k0 k1' z) (by (try dsimp only); rw [if_pos rfl, if_neg (by omega)]; exact ra) (fun k' k0 k1' z => by (try dsimp only); rw [if_neg (by omega), if_neg (by omega)]; exact ak k' k0 k1' z) ro
theorem j_coset (h : JS G R V k) (hk : k < 512) {x1 x2 : Int} (h1 : i32 x1) (h2 : i32 x2) : jR (qK (rcsX V 57 x1 x2)) (qK (rcsX V 57 x1 x2)) k 119 214 [(0, x1), (0, x2)] G R V := by
  refine j_put h hk (a := x1) (ok := (0 ≤ x1 ∧ x1 < 8) ∧ (0 ≤ x2 ∧ x2 < V 57 13)) (fun dd hm rf c => ?_)
  obtain ⟨CC, tb⟩ := tb_m hm rf
  have n := MI_N hm
  have q := coset_K c (k5_m rf) (K1_m hm rf) h1 h2
  have eo : csO (mI V dd 3) x1 x2 = ((0 ≤ x1 ∧ x1 < 8) ∧ (0 ≤ x2 ∧ x2 < V 57 13)) := by unfold csO; rw [mI_3, CC]
  rw [eo, show csX (mI V dd 3) x1 x2 = rcsX V 57 x1 x2 by rw [mI_3]; exact cs_eq hm rf.1 x1 x2] at q
  refine ⟨_, _, fun d => bi (x2 = d), fun o => ⟨o.1, pg_m hm rf (mm := fun d => mtb V 57 x2 d) (pp := fun d => bi (x2 = d)) (fun d d0 d1 => by (try dsimp only); rw [mI_3, tb x2 d o.2.1 o.2.2 d0 d1]) (fun _ _ _ => rfl) ⟨fun c _ _ => bi_nn _, fun d d0 d1 => ?_, ?_⟩, fun _ _ _ => rfl⟩, q, fun G1 R1 V1 ly m l => ?_⟩
  · exact (sm_dl (g := fun c => mtb V 57 c d) o.2.1 (by omega)).symm
  · have := (MI_tb hm (c := x2) (e := 0) o.2 (by omega)).2.1
    show V (57 + 18) (300 * x2 + 0) ≤ _
    omega
  · have c := coset_C ly m h1 h2
    have e : rcsX V1 57 x1 x2 = rcsX V 57 x1 x2 := by
      unfold rcsX
      rw [e0V l, eV l 18 (by omega)]
    rw [e, l 57 13 (by omega) (by omega)] at c
    exact cwv_mono (by omega) c (fun _ _ q => q)
theorem j_many (h : JS G R V k) (hk : k < 512) {x1 x2 x3 : Int} (h1 : i32 x1) (h2 : i32 x2) (h3 : i32 x3) : jR (qK (jxMany V x1 x2 x3)) (qK (jxMany V x1 x2 x3)) k 124 225 [(0, x1), (0, x2), (0, x3)] G R V := by
  refine j_put h hk (a := x1) (ok := mnO (aF V x2) (mmk V 57 x2 0) x1 x3) (fun dd hm rf c => ?_)
  have n := MI_N hm
  have q := many_K c (k5_m rf) (K1_m hm rf) (tg_m hm rf) h1 h2 h3 (aC_m hm rf)
  rw [fl_m rf] at q
  have e0 : aF V x2 = 1 → mI V dd 23 3 (300 * x2 + 0) = mmk V 57 x2 0 := fun f => ((aR_m hm rf f).2 0 (by omega) (by omega)).1
  have eX : mnX (aF V x2) (mI V dd 23 3 (300 * x2 + 0)) x1 x3 = jxMany V x1 x2 x3 := by
    by_cases f : aF V x2 = 1
    · rw [e0 f]; rfl
    · unfold jxMany mnX
      rw [if_pos f, if_pos f]
  have eO : mnO (aF V x2) (mI V dd 23 3 (300 * x2 + 0)) x1 x3 = mnO (aF V x2) (mmk V 57 x2 0) x1 x3 := by
    by_cases f : aF V x2 = 1
    · rw [e0 f]
    · exact propext ⟨fun z => absurd z.2.1 f, fun z => absurd z.2.1 f⟩
  rw [eX, eO] at q
  refine ⟨_, _, fun c => mpt V 57 x2 c * x3, fun o => ?_, q, fun G1 R1 V1 ly m l => ?_⟩
  · obtain ⟨ar, e⟩ := aR_m hm rf o.2.1
    have k0 := o.1.2
    refine ⟨o.1.1, pg_m hm rf (mm := fun d => mmk V 57 x2 d * x3) (pp := fun c => mpt V 57 x2 c * x3) (fun d d0 d1 => by (try dsimp only); rw [(e d d0 d1).1]) (fun d d0 d1 => by (try dsimp only); rw [(e d d0 d1).2]) ⟨fun c c0 c1 => Int.mul_nonneg (ar.1 c c0 c1) k0.1, fun d d0 d1 => ?_, o.2.2⟩, fun c c0 c1 => by (try dsimp only); rw [(e c c0 c1).2]⟩
    show sm (fun y => V (57 + 22) (300 * x2 + y) * V (57 + 18) (300 * y + d)) (V 57 13).toNat * x3 = _
    rw [← sm_mc]
    refine sm_congr (fun y _ _ => ?_)
    (try dsimp only)
    rw [Int.mul_assoc, Int.mul_comm (V (57 + 18) _) x3, ← Int.mul_assoc]
  · have c := many_C ly m h1 h2 h3 (mtg m) (fun f => aR_e l (by rw [eV l 21 (by omega)] at f; exact (aR_m hm rf f).1))
    rw [mmk_e l, mpt_e l, eV l 21 (by omega)] at c
    exact cwv_mono (by omega) c (fun _ _ q => q)
theorem j_both (h : JS G R V k) (hk : k < 512) {x1 x2 x3 x4 : Int} (h1 : i32 x1) (h2 : i32 x2) (h3 : i32 x3) (h4 : i32 x4) : jR (qK (jxBoth V x1 x2 x3 x4)) (qK (jxBoth V x1 x2 x3 x4)) k 122 221 [(0, x1), (0, x2), (0, x3), (0, x4)] G R V := by
  refine j_put h hk (a := x1) (ok := boO (aF V x2) (aF V x3) (mmk V 57 x2 0) (mmk V 57 x3 0) x1 x4) (fun dd hm rf c => ?_)
  have n := MI_N hm
  have ex : ∃ p, boO (aF V x2) (aF V x3) (mmk V 57 x2 0) (mmk V 57 x3 0) x1 x4 → prtP (V 57 13) (mtb V 57) (fun d => boS (mmk V 57 x2 d) (mmk V 57 x3 d) x4) p := by
    by_cases o : boO (aF V x2) (aF V x3) (mmk V 57 x2 0) (mmk V 57 x3 0) x1 x4
    · obtain ⟨p, q⟩ := bo_R hm (aR_m hm rf o.2.1.1).1 (aR_m hm rf o.2.1.2).1 o.2.2
      exact ⟨p, fun _ => q⟩
    · exact ⟨fun _ => 0, fun z => absurd z o⟩
  obtain ⟨p, pg⟩ := ex
  have em : ∀ x, aF V x = 1 → ∀ d, 0 ≤ d → d < V 57 13 → mI V dd 23 3 (300 * x + d) = mmk V 57 x d := fun x f d d0 d1 => ((aR_m hm rf f).2 d d0 d1).1
  have eO : boO (aF V x2) (aF V x3) (mI V dd 23 3 (300 * x2 + 0)) (mI V dd 23 3 (300 * x3 + 0)) x1 x4 = boO (aF V x2) (aF V x3) (mmk V 57 x2 0) (mmk V 57 x3 0) x1 x4 := by
    by_cases f : aF V x2 = 1 ∧ aF V x3 = 1
    · rw [em x2 f.1 0 (by omega) (by omega), em x3 f.2 0 (by omega) (by omega)]
    · exact propext ⟨fun z => absurd z.2.1 f, fun z => absurd z.2.1 f⟩
  have eX : boX (aF V x2) (aF V x3) (mI V dd 23 3 (300 * x2 + 0)) (mI V dd 23 3 (300 * x3 + 0)) x1 x4 = jxBoth V x1 x2 x3 x4 := by
    by_cases f : aF V x2 = 1 ∧ aF V x3 = 1
    · rw [em x2 f.1 0 (by omega) (by omega), em x3 f.2 0 (by omega) (by omega)]; rfl
    · unfold jxBoth boX
      rw [if_pos f, if_pos f]
  have pgc : boO (aF V x2) (aF V x3) (mmk V 57 x2 0) (mmk V 57 x3 0) x1 x4 → prtP (mI V dd 3 0 3) (tbD (mI V dd 3)) (fun d => boS (mI V dd 23 3 (300 * x2 + d)) (mI V dd 23 3 (300 * x3 + d)) x4) p := fun o => pg_m hm rf (fun d d0 d1 => by (try dsimp only); rw [em x2 o.2.1.1 d d0 d1, em x3 o.2.1.2 d d0 d1]) (fun _ _ _ => rfl) (pg o)
  have q := both_K (pp := p) c (k5_m rf) (K1_m hm rf) (tg_m hm rf) h1 h2 h3 h4 (aC_m hm rf) (aC_m hm rf) (by rw [fl_m rf, fl_m rf, eO]; exact pgc)
  rw [fl_m rf, fl_m rf, eX, eO] at q
  refine ⟨_, p, p, fun o => ⟨o.1.1, pgc o, fun _ _ _ => rfl⟩, q, fun G1 R1 V1 ly m l => ?_⟩
  have c := both_C (p := p) (w := x4) ly m h1 h2 h3 h4 (mtg m) (fun f => aR_e l (by rw [eV l 21 (by omega)] at f; exact (aR_m hm rf f).1)) (fun f => aR_e l (by rw [eV l 21 (by omega)] at f; exact (aR_m hm rf f).1)) (by rw [mmk_e l, eV l 21 (by omega), l 57 13 (by omega) (by omega), mtb_e l]; exact pg)
  rw [mmk_e l, eV l 21 (by omega)] at c
  exact cwv_mono (by omega) c (fun _ _ q => q)
theorem j_colour (h : JS G R V k) (hk : k < 512) {x1 x2 x3 : Int} (h1 : i32 x1) (h2 : i32 x2) (h3 : i32 x3) : jR (qK (jxColour V x1 x2 x3)) (qK (jxColour V x1 x2 x3)) k 123 224 [(0, x1), (0, x2), (0, x3)] G R V := by
  refine j_put h hk (a := x1) (ok := cuO (aF V x2) (mmk V 57 x2 0) x1 x3) (fun dd hm rf c => ?_)
  obtain ⟨CC, tb⟩ := tb_m hm rf
  obtain ⟨_, _, g7, _⟩ := gp_eq hm rf.1
  have n := MI_N hm
  have em : aF V x2 = 1 → ∀ d, 0 ≤ d → d < V 57 13 → mI V dd 23 3 (300 * x2 + d) = mmk V 57 x2 d := fun f d d0 d1 => ((aR_m hm rf f).2 d d0 d1).1
  have ex : ∃ p, cuO (aF V x2) (mmk V 57 x2 0) x1 x3 → prtP (V 57 13) (mtb V 57) (fun d => x3 ^ (rdR V 57 (fun d => mmk V 57 x2 d) (V (57 + 15) d)).toNat) p := by
    by_cases o : cuO (aF V x2) (mmk V 57 x2 0) x1 x3
    · obtain ⟨p, q⟩ := (co_R hm (aR_m hm rf o.2.1).1 o.1.2.1).2.2 o.2.2
      exact ⟨p, fun _ => q⟩
    · exact ⟨fun _ => 0, fun z => absurd z o⟩
  obtain ⟨p, pg⟩ := ex
  have rq : aF V x2 = 1 → ∀ d, 0 ≤ d → d < V 57 13 → rdM (mI V dd 3) (fun d => mI V dd 23 3 (300 * x2 + d)) (mI V dd 3 207 d) = rdR V 57 (fun d => mmk V 57 x2 d) (V (57 + 15) d) := fun f d d0 d1 => by
    have fo := MI_fo hm (c := d) ⟨d0, d1⟩
    have e7 : dd 3 207 d = V (57 + 15) d := g7 d d0 d1
    rw [mI_3, e7]
    exact rd_eq hm rf.1 fo (em f)
  have rr : aF V x2 = 1 → ∀ d, 0 ≤ d → d < V 57 13 → 0 ≤ rdR V 57 (fun d => mmk V 57 x2 d) (V (57 + 15) d) ∧ rdR V 57 (fun d => mmk V 57 x2 d) (V (57 + 15) d) ≤ 1000000000000000 := fun f d d0 d1 => by
    have fo := MI_fo hm (c := d) ⟨d0, d1⟩
    have ar := (aR_m hm rf f).1
    have q := (co_R hm ar (k := 0) (by omega)).1 _ fo.1 fo.2
    have := ar.2
    omega
  have r0 : aF V x2 = 1 → rdR V 57 (fun d => mmk V 57 x2 d) (V (57 + 15) 0) = mmk V 57 x2 0 := fun f => (co_R hm (aR_m hm rf f).1 (k := 0) (by omega)).2.1
  have eO : cuO (aF V x2) (mI V dd 23 3 (300 * x2 + 0)) x1 x3 = cuO (aF V x2) (mmk V 57 x2 0) x1 x3 := by
    by_cases f : aF V x2 = 1
    · rw [em f 0 (by omega) (by omega)]
    · exact propext ⟨fun z => absurd z.2.1 f, fun z => absurd z.2.1 f⟩
  have eX : cuX (aF V x2) (mI V dd 23 3 (300 * x2 + 0)) x1 x3 = jxColour V x1 x2 x3 := by
    by_cases f : aF V x2 = 1
    · rw [em f 0 (by omega) (by omega)]; rfl
    · unfold jxColour cuX
      rw [if_pos f, if_pos f]
  have pgc : cuO (aF V x2) (mmk V 57 x2 0) x1 x3 → prtP (mI V dd 3 0 3) (tbD (mI V dd 3)) (fun d => x3 ^ (rdM (mI V dd 3) (fun d => mI V dd 23 3 (300 * x2 + d)) (mI V dd 3 207 d)).toNat) p := fun o => pg_m hm rf (fun d d0 d1 => by (try dsimp only); rw [rq o.2.1 d d0 d1]) (fun _ _ _ => rfl) (pg o)
  have q := colour_K (pp := p) c (k5_m rf) (K1_m hm rf) (tg_m hm rf) (hs_m rf) h1 h2 h3 (aC_m hm rf) (fun f d d0 d1 => by rw [fl_m rf] at f; rw [show mI V dd 3 0 3 = V 57 13 by rw [mI_3]; exact CC] at d1; rw [rq f d d0 d1]; exact rr f d d0 d1) (fun f => by rw [fl_m rf] at f; rw [rq f 0 (by omega) (by omega), em f 0 (by omega) (by omega)]; exact r0 f) (by rw [fl_m rf, eO]; exact pgc)
  rw [fl_m rf, eX, eO] at q
  refine ⟨_, p, p, fun o => ⟨o.1.1, pgc o, fun _ _ _ => rfl⟩, q, fun G1 R1 V1 ly m l => ?_⟩
  have c := colour_C (p := p) ly m h1 h2 h3 (mtg m) (fun f => aR_e l (by rw [eV l 21 (by omega)] at f; exact (aR_m hm rf f).1)) (by rw [mmk_e l, rdR_e l, eV l 21 (by omega), eV l 15 (by omega), l 57 13 (by omega) (by omega)]; exact rr) (by rw [mmk_e l, rdR_e l, eV l 21 (by omega), eV l 15 (by omega)]; exact r0) (by rw [mmk_e l, rdR_e l, eV l 21 (by omega), eV l 15 (by omega), l 57 13 (by omega) (by omega), mtb_e l]; exact pg)
  rw [mmk_e l, eV l 21 (by omega)] at c
  exact cwv_mono (by omega) c (fun _ _ q => q)
theorem j_heaps (h : JS G R V k) (hk : k < 512) {x1 : Int} (h1 : i32 x1) : jR (qK (jxHeaps V x1)) (qK (jxHeaps V x1)) k 121 219 [(0, x1)] G R V := by
  refine j_put h hk (a := x1) (ok := 0 ≤ x1 ∧ x1 < 8) (fun dd hm rf c => ?_)
  obtain ⟨CC, tb⟩ := tb_m hm rf
  obtain ⟨HH, _, _⟩ := hp_eq hm rf.1
  have n := MI_N hm
  obtain ⟨pg, z0⟩ := hp_R hm rf.1
  have pgc : prtP (mI V dd 3 0 3) (tbD (mI V dd 3)) (fun d => hfx V 57 d) (hpQ (mI V dd 3)) := pg_m hm rf (fun _ _ _ => rfl) (fun _ _ _ => by rw [mI_3]) pg
  have eH : mI V dd 3 0 2 = V 57 12 := by rw [mI_3]; exact HH
  have q := heaps_K c (k5_m rf) (K1_m hm rf) (tg_m hm rf) (hs_m rf) (by rw [mI_3]; have e1 := rf.1.2.1; omega) h1 pgc (by rw [eH]; exact z0)
  rw [eH] at q
  refine ⟨_, _, hpQ (dd 3), fun o => ⟨o, pgc, fun _ _ _ => by rw [mI_3]⟩, q, fun G1 R1 V1 ly m l => ?_⟩
  have c := heaps_C (q := hpQ (dd 3)) ly m h1 (mtg m) (by rw [hfx_e l, l 57 13 (by omega) (by omega), mtb_e l]; exact pg) (by rw [hfx_e l, l 57 12 (by omega) (by omega)]; exact z0)
  rw [l 57 12 (by omega) (by omega)] at c
  exact cwv_mono (by omega) c (fun _ _ q => q)
theorem j_places (h : JS G R V k) (hk : k < 512) {x1 x2 x3 : Int} (h1 : i32 x1) (h2 : i32 x2) (h3 : i32 x3) : jR (qK (jxPlaces V x1 x2 x3)) (qK (jxPlaces V x1 x2 x3)) k 120 218 [(0, x1), (0, x2), (0, x3)] G R V := by
  refine j_put h hk (a := x1) (ok := plO x1 x2 x3 (V 57 4)) (fun dd hm rf c => ?_)
  obtain ⟨CC, tb⟩ := tb_m hm rf
  obtain ⟨_, _, g7, _⟩ := gp_eq hm rf.1
  have n := MI_N hm
  have ex : ∃ p, plO x1 x2 x3 (V 57 4) → prtP (V 57 13) (mtb V 57) (fun d => plF V 57 x3 x2 d) p := by
    by_cases o : plO x1 x2 x3 (V 57 4)
    · obtain ⟨p, q⟩ := pl_R hm x3 o.1.2
      exact ⟨p, fun _ => q⟩
    · exact ⟨fun _ => 0, fun z => absurd z o⟩
  obtain ⟨p, pg⟩ := ex
  have eP : mI V dd 3 0 0 = V 57 4 := by rw [mI_3]; exact rf.1.1
  have pgc : plO x1 x2 x3 (V 57 4) → prtP (mI V dd 3 0 3) (tbD (mI V dd 3)) (fun d => plF V 57 x3 x2 d) p := fun o => pg_m hm rf (fun _ _ _ => rfl) (fun _ _ _ => rfl) (pg o)
  have pd := (pl_d hm rf.1).2
  have q := places_K (mm := fun d => plF V 57 x3 x2 d) (pp := p) c (k5_m rf) (K1_m hm rf) (tg_m hm rf) (hs_m rf) (by rw [mI_3]; exact pd) h1 h2 h3 (fun o d d0 d1 => by
    rw [eP] at o
    rw [mI_3] at d1 ⊢
    rw [CC] at d1
    have e7 : dd 3 207 d = V (57 + 15) d := g7 d d0 d1
    have fo := MI_fo hm (c := d) ⟨d0, d1⟩
    rw [e7]
    obtain ⟨K, cn, rp, nu, nc⟩ := nc_p hm (V (57 + 15) d)
    exact ⟨K, cn, rp, nu, nc_d hm rf.1 fo nc, (plF_v hm ⟨d0, d1⟩ o.1.2.1 nc).symm⟩) (by rw [eP]; exact pgc)
  rw [eP] at q
  refine ⟨_, p, p, fun o => ⟨o.1.1, pgc o, fun _ _ _ => rfl⟩, q, fun G1 R1 V1 ly m l => ?_⟩
  have c := places_C (p := p) ly m h1 h2 h3 (mtg m) (by rw [plF_e l, l 57 4 (by omega) (by omega), l 57 13 (by omega) (by omega), mtb_e l]; exact pg)
  rw [plF_e l, l 57 4 (by omega) (by omega)] at c
  exact cwv_mono (by omega) c (fun _ _ q => q)
/-! what is read of acts -/
theorem j_parts (h : JS G R V k) (hk : k < 512) {x1 x2 : Int} (h1 : i32 x1) (h2 : i32 x2) : jR (qK (jxParts V x1 x2)) (qK (jxParts V x1 x2)) k 125 226 [(0, x1), (0, x2)] G R V := jp h hk (P := sP V) (fun dd c hm rf => opY_j (by
  rw [fl_m rf, show mI V dd 3 0 3 = V 57 13 by rw [mI_3]; exact (tb_m hm rf).1]
  unfold jxParts rdX
  by_cases q : aF V x1 = 1 ∧ (0 ≤ x2 ∧ x2 < V 57 13)
  · rw [if_pos q, if_pos q]
    exact ((aR_m hm rf q.1).2 x2 q.2.1 q.2.2).2
  · rw [if_neg q, if_neg q]) (parts_K c (k5_m rf) h1 h2)) (fun dd L' I' G1 R1 V1 rf hp ly m vr l => cwv_mono (by omega) (parts_C ly m h1 h2) (fun r V2 q => by
  rw [q.1, q.2, l 57 13 (by omega) (by omega), eV l 21 (by omega), eV l 22 (by omega)]
  exact ⟨rfl, jm (mQ_r m) l rf hp⟩))
theorem j_mark (h : JS G R V k) (hk : k < 512) {x1 x2 : Int} (h1 : i32 x1) (h2 : i32 x2) : jR (qK (jxMark V x1 x2)) (qK (jxMark V x1 x2)) k 126 227 [(0, x1), (0, x2)] G R V := jp h hk (P := fun dd L' I' => MI V 57 ∧ sP V dd L' I') (fun dd c hm rf => cw_mono (Nat.le_refl _) (opY_j (X' := jxMark V x1 x2) (by
  rw [fl_m rf, show mI V dd 3 0 3 = V 57 13 by rw [mI_3]; exact (tb_m hm rf).1]
  unfold jxMark rdX
  by_cases q : aF V x1 = 1 ∧ (0 ≤ x2 ∧ x2 < V 57 13)
  · rw [if_pos q, if_pos q]
    exact ((aR_m hm rf q.1).2 x2 q.2.1 q.2.2).1
  · rw [if_neg q, if_neg q]) (mark_K c (k5_m rf) h1 h2)) (fun r G' R' V' q => by
  obtain ⟨q1, L', I', q2, q3⟩ := q
  exact ⟨q1, L', I', q2, hm, q3⟩)) (fun dd L' I' G1 R1 V1 rf hp ly m vr l => cwv_mono (by omega) (mark_C ly m h1 h2 (mtg m) (fun f => aR_e l (by rw [eV l 21 (by omega)] at f; exact (aR_m hp.1 rf f).1))) (fun r V2 q => by
  rw [q.1, q.2, mmk_e l, l 57 13 (by omega) (by omega), eV l 21 (by omega)]
  exact ⟨rfl, jm (mQ_r m) l rf hp.2⟩))
theorem j_same (h : JS G R V k) (hk : k < 512) {x1 x2 : Int} (h1 : i32 x1) (h2 : i32 x2) : jR (qE (jxSame V x1 x2)) (qE (jxSame V x1 x2)) k 128 230 [(0, x1), (0, x2)] G R V := jp h hk (P := fun dd L' I' => MI V 57 ∧ sP V dd L' I') (fun dd c hm rf => cw_mono (Nat.le_refl _) (opX_j (X' := jxSame V x1 x2) (by
  rw [fl_m rf, fl_m rf, show mI V dd 3 0 3 = V 57 13 by rw [mI_3]; exact (tb_m hm rf).1]
  unfold jxSame saX
  by_cases q : aF V x1 = 1 ∧ aF V x2 = 1
  · rw [if_pos q, if_pos q]
    exact congrArg the (sdP_c (fun d d0 d1 => ((aR_m hm rf q.1).2 d d0 d1).1) (fun d d0 d1 => ((aR_m hm rf q.2).2 d d0 d1).1))
  · rw [if_neg q, if_neg q]) (same_K c (k5_m rf) (tg_m hm rf) h1 h2 (aC_m hm rf) (aC_m hm rf))) (fun r G' R' V' q => by
  obtain ⟨q1, L', I', q2, q3⟩ := q
  exact ⟨q1, L', I', q2, hm, q3⟩)) (fun dd L' I' G1 R1 V1 rf hp ly m vr l => cwv_mono (by omega) (same_C ly m h1 h2 (mtg m) (fun f => aR_e l (by rw [eV l 21 (by omega)] at f; exact (aR_m hp.1 rf f).1)) (fun f => aR_e l (by rw [eV l 21 (by omega)] at f; exact (aR_m hp.1 rf f).1))) (fun r V2 q => by
  rw [q.1, q.2, mmk_e l, l 57 13 (by omega) (by omega), eV l 21 (by omega)]
  exact ⟨rfl, jm (mQ_r m) l rf hp.2⟩))
theorem sp_m (hm : MI V 57) (rf : rfD V dd) : ∀ c, 0 ≤ c → c < V 57 13 → mI V dd 3 210 c = mtb V 57 c c := fun c c0 c1 => by
  obtain ⟨CC, tb⟩ := tb_m hm rf
  have hs := rf.1.2.2.2.2
  have hg := hs.2.2.2
  rw [mI_3, ← tb c c c0 c1 c0 c1]
  unfold tbD
  rw [hg.2.2.1 c c c0 (by omega) c0 (by omega), ov_cc hg.1 hs.1 hg.2.1 ⟨c0, by omega⟩, Int.mul_one]
theorem j_maps (h : JS G R V k) (hk : k < 512) {x1 x2 x3 : Int} (h1 : i32 x1) (h2 : i32 x2) (h3 : i32 x3) : jR (qK (jxMaps V x1 x2 x3)) (qK (jxMaps V x1 x2 x3)) k 129 231 [(0, x1), (0, x2), (0, x3)] G R V := jp h hk (P := fun dd L' I' => MI V 57 ∧ sP V dd L' I') (fun dd c hm rf => cw_mono (Nat.le_refl _) (opY_j (X' := jxMaps V x1 x2 x3) (by
  have sp := sp_m hm rf
  have n := MI_N hm
  rw [fl_m rf, fl_m rf, show mI V dd 3 0 3 = V 57 13 by rw [mI_3]; exact (tb_m hm rf).1]
  unfold jxMaps moX
  by_cases q : aF V x1 = 1 ∧ aF V x2 = 1 ∧ (x3 = 0 ∨ x3 = 1)
  · rw [if_pos q, if_pos q]
    have e1 := (aR_m hm rf q.1).2
    have e2 := (aR_m hm rf q.2.1).2
    by_cases w : x3 = 0
    · rw [if_pos w, if_pos w]
      refine congrArg mpX (pr_congr (fun c c0 c1 => ?_))
      (try dsimp only)
      rw [(e2 c c0 (by omega)).1, (e1 c c0 (by omega)).2]
    · rw [if_neg w, if_neg w]
      have a1 : bi (∀ c, 0 ≤ c → c < V 57 13 → mI V dd 23 3 (300 * x1 + c) = mI V dd 23 3 (300 * x2 + c)) = bi (∀ c, 0 ≤ c → c < V 57 13 → mmk V 57 x1 c = mmk V 57 x2 c) := bi_c ⟨fun z c c0 c1 => by rw [← (e1 c c0 c1).1, ← (e2 c c0 c1).1]; exact z c c0 c1, fun z c c0 c1 => by rw [(e1 c c0 c1).1, (e2 c c0 c1).1]; exact z c c0 c1⟩
      have a2 : mpB (V 57 13) (mI V dd 3 210) (fun d => mI V dd 23 4 (300 * x1 + d)) = mpB (V 57 13) (fun c => mtb V 57 c c) (mpt V 57 x1) := by
        refine congrArg mpX (pr_congr (fun c c0 c1 => ?_))
        (try dsimp only)
        rw [(e1 c c0 (by omega)).2, sp c c0 (by omega)]
      rw [a2]
      exact congrArg (fun z => z * mpB (V 57 13) (fun c => mtb V 57 c c) (mpt V 57 x1)) a1
  · rw [if_neg q, if_neg q]) (maps_K c (k5_m rf) (tg_m hm rf) (fun d d0 d1 => by
    rw [show mI V dd 3 0 3 = V 57 13 by rw [mI_3]; exact (tb_m hm rf).1] at d1
    rw [sp_m hm rf d d0 d1]
    have := MI_tb hm (c := d) (e := d) ⟨d0, d1⟩ ⟨d0, d1⟩
    exact ⟨this.1, this.2.1⟩) h1 h2 h3 (aC_m hm rf) (aC_m hm rf))) (fun r G' R' V' q => by
  obtain ⟨q1, L', I', q2, q3⟩ := q
  exact ⟨q1, L', I', q2, hm, q3⟩)) (fun dd L' I' G1 R1 V1 rf hp ly m vr l => cwv_mono (by omega) (maps_C ly m h1 h2 h3 (mtg m) (fun f => aR_e l (by rw [eV l 21 (by omega)] at f; exact (aR_m hp.1 rf f).1)) (fun f => aR_e l (by rw [eV l 21 (by omega)] at f; exact (aR_m hp.1 rf f).1))) (fun r V2 q => by
  rw [q.1, q.2, mmk_e l, mpt_e l, mtb_e l, l 57 13 (by omega) (by omega), eV l 21 (by omega)]
  exact ⟨rfl, jm (mQ_r m) l rf hp.2⟩))
theorem j_act (h : JS G R V k) (hk : k < 512) {x1 x2 x3 : Int} (h1 : i32 x1) (h2 : i32 x2) (h3 : i32 x3) : jR (qK (jxAct V x1 x2 x3)) (qK (jxAct V x1 x2 x3)) k 127 229 [(0, x1), (0, x2), (0, x3)] G R V := jp h hk (P := fun dd L' I' => MI V 57 ∧ sP V dd L' I') (fun dd c hm rf => cw_mono (Nat.le_refl _) (opY_j (X' := jxAct V x1 x2 x3) (by
  have n := MI_N hm
  obtain ⟨HH, _, _⟩ := hp_eq hm rf.1
  obtain ⟨_, g4, g7, _⟩ := gp_eq hm rf.1
  rw [fl_m rf, show mI V dd 3 0 3 = V 57 13 by rw [mI_3]; exact (tb_m hm rf).1, show mI V dd 3 0 1 = V 57 5 by rw [mI_3]; exact rf.1.2.1, show mI V dd 3 0 2 = V 57 12 by rw [mI_3]; exact HH]
  unfold jxAct acX
  by_cases f : aF V x1 = 1
  · rw [if_pos f, if_pos f]
    have e1 := (aR_m hm rf f).2
    have mb : ∀ t, 0 ≤ t → t < V 57 5 → mI V dd 3 205 t = rmb V 57 t := fun t t0 t1 => by
      rw [mI_3]
      exact loP_u (mb_eq hm rf.1 (t := t) ⟨t0, t1⟩).1 (rmb_s hm t)
    have rd : ∀ x, 0 ≤ x → x < V 57 12 → rdM (mI V dd 3) (fun d => mI V dd 23 3 (300 * x1 + d)) x = rdR V 57 (fun d => mmk V 57 x1 d) x := fun x x0 x1' => by
      rw [mI_3]
      exact rd_eq hm rf.1 ⟨x0, x1'⟩ (fun c c0 c1 => (e1 c c0 c1).1)
    by_cases y0 : x2 = 0
    · rw [if_pos y0, if_pos y0]; exact (e1 0 (by omega) (by omega)).1
    rw [if_neg y0, if_neg y0]
    by_cases y1 : x2 = 1
    · rw [if_pos y1, if_pos y1]
      exact sm_congr (fun c c0 c1 => (e1 c c0 (by omega)).2)
    rw [if_neg y1, if_neg y1]
    by_cases y2 : x2 = 2
    · rw [if_pos y2, if_pos y2]
      exact congrArg the (idP_c (by omega) (fun d d0 d1 => (e1 d d0 d1).1) (fun d d0 d1 => by rw [mI_3]; exact g7 d d0 d1))
    rw [if_neg y2, if_neg y2]
    by_cases y3 : x2 = 3
    · rw [if_pos y3, if_pos y3]
      by_cases q : 0 ≤ x3 ∧ x3 < V 57 5
      · rw [if_pos q, if_pos q, mb x3 q.1 q.2]
        have lr := (rmb_s hm x3).1
        have co := MI_co hm lr
        rw [show mI V dd 3 204 (rmb V 57 x3) = V (57 + 14) (rmb V 57 x3) by rw [mI_3]; exact g4 _ lr.1 lr.2]
        exact (e1 _ co.1 co.2).1
      · rw [if_neg q, if_neg q]
    rw [if_neg y3, if_neg y3]
    by_cases y4 : x2 = 4
    · rw [if_pos y4, if_pos y4]
      by_cases q : 0 ≤ x3 ∧ x3 < V 57 5
      · have lr := (rmb_s hm x3).1
        rw [if_pos q, if_pos q, mb x3 q.1 q.2, rd _ lr.1 lr.2]
      · rw [if_neg q, if_neg q]
    rw [if_neg y4, if_neg y4]
    by_cases y5 : x2 = 5
    · rw [if_pos y5, if_pos y5]
      by_cases q : 0 ≤ x3 ∧ x3 < V 57 12
      · rw [if_pos q, if_pos q, rd _ q.1 q.2]
      · rw [if_neg q, if_neg q]
    rw [if_neg y5, if_neg y5]
  · rw [if_neg f, if_neg f]) (act_K c (k5_m rf) (K1_m hm rf) (tg_m hm rf) (hs_m rf) h1 h2 h3 (aC_m hm rf))) (fun r G' R' V' q => by
  obtain ⟨q1, L', I', q2, q3⟩ := q
  exact ⟨q1, L', I', q2, hm, q3⟩)) (fun dd L' I' G1 R1 V1 rf hp ly m vr l => cwv_mono (by omega) (act_C ly m h1 h2 h3 (mtg m) (fun f => aR_e l (by rw [eV l 21 (by omega)] at f; exact (aR_m hp.1 rf f).1)) (fun v f ip => ki_R m (aR_e l (by rw [eV l 21 (by omega)] at f; exact (aR_m hp.1 rf f).1)) ip)) (fun r V2 q => by
  obtain ⟨v, q1, q2, q3⟩ := q
  rw [q1, q3, mmk_e l, mpt_e l, rmb_e l, rdR_e l, e0V l, eV l 21 (by omega), eV l 15 (by omega), eV l 14 (by omega)]
  exact ⟨rfl, jm (mQ_q m q2) l rf hp.2⟩))
theorem j_count (h : JS G R V k) (hk : k < 512) {x1 : Int} (h1 : i32 x1) : jR (qE (jxCount V x1)) (qE (jxCount V x1)) k 106 182 [(0, x1)] G R V := jp h hk (P := sP V) (fun dd c hm rf => opX_j (by
  obtain ⟨HH, _, _⟩ := hp_eq hm rf.1
  have e4 : sm (mI V dd 23 2) (8 : Int).toNat = sm (fun i => V (57 + 21) i) (8 : Int).toNat := sm_congr (fun a a0 a1 => by
    rw [mI_23, rwB_a (by omega)]
    exact (rf.2.2.1.2 a a0 (by omega)).1)
  have e5 : mI V dd 23 0 0 = V 57 35 := by rw [mI_23]; exact rwB_0
  rw [e4, e5, mI_3, rf.1.1, rf.1.2.1, HH, (tb_m hm rf).1]
  rfl) (count_K c h1)) (fun dd L' I' G1 R1 V1 rf hp ly m vr l => cwv_mono (by omega) (count_C ly m h1) (fun r V2 q => by
  rw [q.1, q.2, e0V l, eV l 21 (by omega)]
  exact ⟨rfl, jm (mQ_r m) l rf hp⟩))
end
