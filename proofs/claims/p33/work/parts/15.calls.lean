def zwk (w : Cond) : Bool := match w with
  | .methodLinkNest .. => true
  | .privateMethod _ => true
  | .arrayOver (.object _) => true
  | .arrayClass _ => true
  | w => w.onTables && w.keeps
set_option maxRecDepth 100000 in
theorem ztbl_ok : lw_tbl.all zwk = true := by decide +kernel
theorem zw_warm {A A' : Array Value} {s U : State} (hW : s.WarmedH U.vm) {w : Cond} (h : zwk w = true) (hw : w.before A s = true) : w.before A' U = true := by
  unfold zwk at h
  split at h
  next a i x hh => exact va_Nw.use rfl (va_Nw.warmM hW (va_Nw.of rfl hw))
  next x => exact va_tabs rfl (rfl : (s.setVm U.vm).vm = U.vm) (by rw [Cond.privateMethod_setVm hW.alike]; exact hw)
  next C => exact va_AO.use (va_AO.moved hW.alike (va_AO.of hw))
  next t => exact word_at hW (Or.inr ⟨_, rfl⟩) hw
  next => exact word_at hW (Or.inl h) hw
section ZC
variable {p : Program} {l : Launch} {e : Env} {R : Room} {s : State} {m : MethodId} {args : Array Value} {below : List Frame} {meth : Method} {c : Code} {Q : State → Prop}
variable {D : va_G} {cy : Nat → ClassId} {ν : Nat → Int} {bd : zB} {b nL n0 s0 own : Nat} {ini : Bool} {ret : Option FieldType} {cc : ByteArray}
def zGd (D : va_G) (cy : Nat → ClassId) (U : State) : Prop := va_K D vwCl (zty cy) U ∧ ∀ w ∈ lw_tbl, w.before #[] U = true
theorem zGd.warm {s U : State} (hW : s.WarmedH U.vm) (h : va_K D vwCl (zty cy) s) {A : Array Value} (hw : ∀ w ∈ lw_tbl, w.before A s = true) : zGd D cy U := ⟨va_K.moved hW.alike h, fun w hm => zw_warm hW (List.all_eq_true.mp ztbl_ok w hm) (hw w hm)⟩
def zPc (D : va_G) (cy : Nat → ClassId) (ν : Nat → Int) (b : Nat) (as : List zV) (h : zH) : Array Value → State → Prop := fun v U => v = (as.map (zg ν b)).toArray ∧ U.heap.size = b + h.length ∧ va_P D vwCl (zws ν b cy b h) U.heap ∧ zGd D cy U
def zQc (D : va_G) (cy : Nat → ClassId) (ν : Nat → Int) (b : Nat) (r : Option zV) (h : zH) : Array Value → State → Outcome → State → Prop := fun _ st o t => o = .returned (r.map (zg ν b)) ∧ t.heap.size = b + h.length ∧ va_P D vwCl (zws ν b cy b h) t.heap ∧ va_F (fun q : Nat => b ≤ q) st t
abbrev zrm (d : Nat) (h h' : zH) : Room := { frames := d, cells := h'.length - h.length, slots := zsl h' - zsl h, locals := 36 * d }
/-- a call's answer stands for the machine's, at depth d -/
def zCO (l : Launch) (D : va_G) (cy : Nat → ClassId) (ν : Nat → Int) (b : Nat) (d : Nat) (call : zCall) : Prop := ∀ (y : Nat) (as : List zV) (h : zH) (r : Option zV) (h' : zH) (q : zM), zm y = some q → call y as h = some (r, h') →
  (h.length ≤ h'.length ∧ zsl h ≤ zsl h') ∧ Met l q.1 [Cond.code q.1 q.2.1 q.2.2.1 q.2.2.2.1] (zrm d h h') (zPc D cy ν b as h) (zQc D cy ν b r h') (h'.length - h.length) (zsl h' - zsl h) (fun x : Nat => b ≤ x)
theorem zPc_blind {as : List zV} {h : zH} : FrameBlind (zPc D cy ν b as h) := by
  intro a U g mk q
  obtain ⟨q0, q1, qP, qK, qW⟩ := q
  exact ⟨q0, q1, qP, zGd.warm (s := U) (U := U.calling g mk a) (State.WarmedH.refl U) qK qW⟩
theorem zcallW {mc ms pc : Nat} {H : Heap} {locs : List Loc} {cells slots : Nat} {Ls : Array Slot} {st0 rest : List Value} {a : Array Value} {r : Option zV} {h' : zH} (hr : va_Run p l e R s m args below meth c H locs cells slots mc ms (F0 m pc Ls st0) rest (zQc D cy ν b r h' a) (fun x : Nat => b ≤ x)) (hS : va_S (fun x : Nat => b ≤ x) s.heap H locs)
    (kk : ∀ (H1 : Heap) (locs1 : List Loc), H1.size = b + h'.length → va_P D vwCl (zws ν b cy b h') H1 → va_S (fun x : Nat => b ≤ x) s.heap H1 locs1 → W p l e R s m args below meth c H1 locs1 (cells + mc) (slots + ms) Q (F0 m (pc + 3) Ls ((r.map (zg ν b)).toList ++ rest))) : W p l e R s m args below meth c H locs cells slots Q (F0 m pc Ls st0) := by
  intro T hT X
  obtain ⟨v, st₀, t, T', L, h0, X', hL, e1, e2, ⟨hv, hz, hP, hF1, hF2⟩, st⟩ := hr T hT X
  have hv' : v = r.map (zg ν b) := by cases hv; rfl
  subst hv'
  rw [h0] at hF1 hF2
  obtain ⟨t2, a1, b1⟩ := kk T'.heap (locs ++ L) (by rw [e1]; exact hz) (by rw [e1]; exact hP) ⟨Nat.le_trans hS.1 (by rw [e1]; exact hF1), fun q h1 h2 => by rw [e1, hF2 q (Nat.lt_of_lt_of_le h1 hS.1) h2]; exact hS.2.1 q h1 h2, fun q hq => by
      rcases List.mem_append.mp hq with h | h
      · exact hS.2.2 q h
      · exact hL q h⟩ T' rfl X'
  exact ⟨t2, st t2 a1, b1⟩
theorem zcat_sum (st : List zV) : ((st.map (zg ν b)).map fun v => v.category).sum = zsum st := by
  unfold zsum
  rw [List.map_map]
  congr 1
  apply List.map_congr_left
  intro v _
  exact zg_cat ν b v
/-- what a call of y needs, beside its kind -/
theorem zcallB {q : zM} {d : Nat} {h h' : zH} (hq : zMOK q) (hts : ∀ w ∈ lw_tbl, w.before args s = true) (hR1 : d + 1 ≤ R.frames) (hR2 : 36 * (d + 1) ≤ R.locals) :
    ((zrm d h h').cells = h'.length - h.length ∧ (zrm d h h').slots = zsl h' - zsl h ∧ (zrm d h h').frames + 1 ≤ R.frames ∧ 8 + (q.2.2.1 + 11) + (zrm d h h').locals ≤ R.locals ∧ (∀ w ∈ [Cond.code q.1 q.2.1 q.2.2.1 q.2.2.2.1], ∀ (a' : Array Value) (U : State), s.WarmedH U.vm → w.before a' U = true) ∧ Cond.code q.1 q.2.1 q.2.2.1 q.2.2.2.1 ∈ [Cond.code q.1 q.2.1 q.2.2.1 q.2.2.2.1]) ∧
    (Cond.code q.1 q.2.1 q.2.2.1 q.2.2.2.1).before args s = true ∧ (Cond.initialized q.1.cls).before args s = true ∧ (q.1.cls ≠ "java/lang/invoke/MethodHandle" ∧ q.1.cls ≠ "java/lang/invoke/VarHandle") ∧ (∀ sig, parseMethodDescriptor q.1.desc = some sig → q.2.2.2.2.2.1 = sig.parameters.length) := by
  obtain ⟨h1, h2, h3, h4, h5, h6, h7, h8, h9, h10⟩ := hq
  refine ⟨⟨rfl, rfl, hR1, by show 8 + (q.2.2.1 + 11) + 36 * d ≤ R.locals; omega, fun w hw a' U hW => ?_, List.mem_cons_self⟩, hts _ h1, hts _ h2, h5, fun sig hs => ?_⟩
  · have e : w = _ := List.mem_singleton.mp hw
    subst e
    exact zw_warm hW (List.all_eq_true.mp ztbl_ok _ h1) (hts _ h1)
  · rw [hs] at h6
    exact (Option.some.inj h6).symm
theorem ztake {st : List zV} {n : Nat} (hl : (st.take n).length = n) : (((st.take n).reverse).map (zg ν b)).length = n ∧ (((st.take n).reverse).map (zg ν b)).reverse = (st.take n).map (zg ν b) := by
  constructor
  · rw [List.length_map, List.length_reverse]; exact hl
  · rw [← List.map_reverse, List.reverse_reverse]
theorem zsplit (st : List zV) (n : Nat) : st.map (zg ν b) = (st.take n).map (zg ν b) ++ (st.drop n).map (zg ν b) := by
  rw [← List.map_append, List.take_append_drop]
theorem zsub {a n b : Nat} (h1 : n ≤ a) (h2 : a ≤ b) : a - n + (b - a) = b - n := by omega
theorem ok_virt (C : zCx p s m args meth c D cy ν bd b nL own ini ret cc) {d : Nat} {call : zCall} (hc : zCO l D cy ν b d call) (hmok : ∀ y q, zm y = some q → zMOK q) (hR1 : d + 1 ≤ R.frames) (hR2 : 36 * (d + 1) ≤ R.locals) {ix : Nat} : zOK p l e R s m args below meth c Q D cy ν b nL n0 s0 cc (.invokevirtual ix) (hd_virt call zna zown (zml own ix)) := by
  obtain ⟨hx, hb, hml, hown, hK, hts, -⟩ := C
  intro pc ls st h pc' ls' st' h' hd hdec
  unfold hd_virt at hd
  have hdg := zdec (k := 3) hdec rfl (by decide)
  split at hd
  next o k y ho =>
    cases hk2 : Nat.blt k 2 with
    | false => rw [hk2] at hd; cases hd
    | true =>
      rw [hk2] at hd
      dsimp only [cond] at hd
      have hk : k < 2 := by simpa [Nat.blt_eq] using hk2
      obtain ⟨q, hq, hwm, hna, how, -⟩ := zml_ok ho (by omega)
      split at hd
      next a r hdr =>
        split at hd
        next ci fs hcell =>
          rw [znth_eq] at hcell
          cases hcc : (Nat.beq ci (zown y) && Nat.ble (zsum r) 8 && Nat.beq (st.take (zna y)).length (zna y)) with
          | false => rw [hcc] at hd; cases hd
          | true =>
            rw [hcc] at hd
            dsimp only [cond] at hd
            simp only [Bool.and_eq_true] at hcc
            obtain ⟨⟨c1, c2⟩, c3⟩ := hcc
            have e1 : ci = zown y := Nat.eq_of_beq_eq_true c1
            have e2 : zsum r ≤ 8 := Nat.le_of_ble_eq_true c2
            have e3 : (st.take (zna y)).length = zna y := Nat.eq_of_beq_eq_true c3
            unfold zback at hd
            split at hd
            next v h1 hcall =>
              cases hd
              obtain ⟨⟨mo1, mo2⟩, hM⟩ := hc y _ h v h' q hq hcall
              refine ⟨⟨mo1, mo2⟩, fun i1 i2 i3 i4 kk H Ls locs hH hP hS hL => ?_⟩
              obtain ⟨cb, w1, w2, w3, w4⟩ := zcallB (h := h) (h' := h') (hmok y q hq) hts hR1 hR2
              obtain ⟨r1, hr1, hre⟩ := hP a.toNat _ (zws_at hcell)
              obtain ⟨ty, -, -, -, hzR, -⟩ := zcls_ok ci r1 hr1
              have hcn : q.1.cls = r1.1 := by rw [(hmok y q hq).2.2.1, ← how, ← e1]; exact hzR
              have hrecv : ∃ cellB : Cell, H[b + a.toNat]? = some cellB ∧ cellB.vm.isStatics = false ∧ s.vm.findClass q.1.cls = some cellB.cls := by rw [hcn]; exact va_recv hK hP hr1 (zws_at hcell)
              obtain ⟨t1, t2⟩ := ztake (ν := ν) (b := b) e3
              have hpre : PreV s H q.1.cls (b + a.toNat) (zPc D cy ν b ((4, a) :: (st.take (zna y)).reverse) h) (((st.take (zna y)).reverse).map (zg ν b)) := ⟨zPc_blind, hrecv, fun U hU hW => ⟨rfl, by rw [hU]; exact hH, by rw [hU]; exact hP, zGd.warm hW hK hts⟩⟩
              have hst : (st.map (zg ν b)) = (((st.take (zna y)).reverse).map (zg ν b)).reverse ++ .ref (b + a.toNat) :: r.map (zg ν b) := by rw [t2, zsplit st (zna y), hdr]; rfl
              have hroom : 2 * (F0 m pc Ls (st.map (zg ν b))).monitorRoom + ((r.map (zg ν b)).map fun v => v.category).sum ≤ 8 := lv_room (by rw [zcat_sum]; exact e2)
              have hfit : (h.length - n0) + (h'.length - h.length) ≤ R.cells ∧ (zsl h - s0) + (zsl h' - zsl h) ≤ R.slots := ⟨by rw [zsub i1 mo1]; exact i3, by rw [zsub i2 mo2]; exact i4⟩
              have hrun : va_Run p l e R s m args below meth c H locs (h.length - n0) (zsl h - s0) (h'.length - h.length) (zsl h' - zsl h) (F0 m pc Ls (st.map (zg ν b))) (r.map (zg ν b)) (zQc D cy ν b v h' (Value.ref (b + a.toNat) :: ((st.take (zna y)).reverse).map (zg ν b)).toArray) (fun x : Nat => b ≤ x) := by
                rcases (show k = 0 ∨ k = 1 by omega) with rfl | rfl
                · exact va_runV (As := ((st.take (zna y)).reverse).map (zg ν b)) ⟨hx, hb, hml, hown, hts⟩ hM ⟨⟨cb.1, cb.2.1, cb.2.2.1, cb.2.2.2.1, cb.2.2.2.2.1, cb.2.2.2.2.2, w1, w2, w3, w4, hts _ (hwm _ (by simp [zmlw]))⟩, hts _ (hwm _ (by simp [zmlw])), hts _ (hwm _ (by simp [zmlw]))⟩ hpre rfl (t1.trans hna) hL.1 hst hroom hdg hfit
                · exact va_runVN (As := ((st.take (zna y)).reverse).map (zg ν b)) (host := zhost) ⟨hx, hb, hml, hown, hts⟩ hM ⟨⟨⟨cb.1, cb.2.1, cb.2.2.1, cb.2.2.2.1, cb.2.2.2.2.1, cb.2.2.2.2.2⟩, w1, w2, w3, w4, hts _ (hwm _ (by simp [zmlw]))⟩, hts _ (hwm _ (by simp [zmlw])), hts _ (hwm _ (by simp [zmlw]))⟩ hpre rfl (t1.trans hna) hL.1 hst hroom hdg hfit
              refine zcallW hrun hS (fun H1 locs1 g1 g2 g3 => ?_)
              rw [zsub i1 mo1, zsub i2 mo2]
              have k1 := kk H1 Ls locs1 g1 g2 g3 hL
              rw [List.map_append] at k1
              cases v with
              | none => exact k1
              | some v => exact k1
            next => cases hd
        next => cases hd
      next => cases hd
  next => cases hd
end ZC
