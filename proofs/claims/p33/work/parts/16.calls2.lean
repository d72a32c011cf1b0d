section ZE
variable {p : Program} {l : Launch} {e : Env} {R : Room} {s : State} {m : MethodId} {args : Array Value} {below : List Frame} {meth : Method} {c : Code} {Q : State → Prop}
variable {D : va_G} {cy : Nat → ClassId} {ν : Nat → Int} {bd : zB} {b nL n0 s0 own : Nat} {ini : Bool} {ret : Option FieldType} {cc : ByteArray}
theorem zcpy_J (f g : Nat → zV) (sp dp n : Nat) : (fun x => zgJ ν (zcpy f g sp dp n x)) = va_cpy (fun x => zgJ ν (f x)) (fun x => zgJ ν (g x)) sp dp n := by
  funext x
  simp only [zcpy, va_cpy]
  by_cases h1 : dp ≤ x
  · have b1 : Nat.ble dp x = true := Nat.ble_eq_true_of_le h1
    by_cases h2 : x < dp + n
    · have b2 : Nat.blt x (dp + n) = true := by simpa [Nat.blt_eq] using h2
      simp [b1, b2, h1, h2]
    · have b2 : Nat.blt x (dp + n) = false := by
        cases hc : Nat.blt x (dp + n) with
        | false => rfl
        | true => exact absurd (by simpa [Nat.blt_eq] using hc) h2
      simp [b1, b2, h2]
  · have b1 : Nat.ble dp x = false := by
      cases hc : Nat.ble dp x with
      | false => rfl
      | true => exact absurd (Nat.le_of_ble_eq_true hc) h1
    simp [b1, h1]
theorem ok_copy (C : zCx p s m args meth c D cy ν bd b nL own ini ret cc) {ix y : Nat} (hlk : ∀ w ∈ zmlw own ix 7 yX0_init, w ∈ lw_tbl) (hR1 : 1 ≤ R.frames) (hR2 : 36 ≤ R.locals) : zOK p l e R s m args below meth c Q D cy ν b nL n0 s0 cc (.invokestatic ix) hd_copy := by
  obtain ⟨hx, hb, hml, hown, hK, hts, -⟩ := C
  intro pc ls st h pc' ls' st' h' hd hdec
  have hdg := zdec (k := 3) hdec rfl (by decide)
  unfold hd_copy at hd
  split at hd
  next n dp d sp sc r =>
    split at hd
    next n0' f n1 g hk0 hk1 =>
      rw [znth_eq] at hk0 hk1
      split at hd
      next nn dd ss en ed es =>
        rw [zfN_eq, zfN_eq, zfN_eq] at hd
        cases hcc : (Nat.ble (ss + nn) n0' && Nat.ble (dd + nn) n1 && Nat.ble (zsum r) 8) with
        | false => rw [hcc] at hd; cases hd
        | true =>
          rw [hcc] at hd
          cases hd
          simp only [Bool.and_eq_true] at hcc
          obtain ⟨⟨c1, c2⟩, c3⟩ := hcc
          have h4 : ss + nn ≤ n0' := Nat.le_of_ble_eq_true c1
          have h5 : dd + nn ≤ n1 := Nat.le_of_ble_eq_true c2
          have h6 : zsum st' ≤ 8 := Nat.le_of_ble_eq_true c3
          rw [zset_eq]
          have hz2 : zsl (h.set d.toNat (.inr (1, n1, zcpy f g ss dd nn))) = zsl h := zsl_set hk1 rfl
          refine ⟨⟨by rw [List.length_set]; exact Nat.le_refl _, by rw [hz2]; exact Nat.le_refl _⟩, fun _ _ _ _ kk H Ls locs hH hP hS hL => ?_⟩
          obtain ⟨g1, g2⟩ := zn_nn en
          obtain ⟨g3, g4⟩ := zn_nn ed
          obtain ⟨g5, g6⟩ := zn_nn es
          have hc0 : H[b + sc.toNat]? = some (vp_cell (cy 1) (n0', .inr (.inl (fun j => zgJ ν (f j))))) := hP sc.toNat _ (zws_at hk0)
          have hc1 : H[b + d.toNat]? = some (vp_cell (cy 1) (n1, .inr (.inl (fun j => zgJ ν (g j))))) := hP d.toNat _ (zws_at hk1)
          obtain ⟨-, k0, hk0', cm0, hkk0⟩ := (hK.2 1 _ (zty_at cy (by decide))).1 n0' (fun j => .long (zgJ ν (f j)))
          obtain ⟨-, k1, hk1', cm1, hkk1⟩ := (hK.2 1 _ (zty_at cy (by decide))).1 n1 (fun j => .long (zgJ ν (g j)))
          intro T hT X
          obtain ⟨vm', X', step⟩ := X.arraycopy hx hown (index := ix) (hts _ (hlk _ (by simp [zmlw]))) (hts _ (hlk _ (by simp [zmlw]))) (hts _ (hlk _ (by simp [zmlw]))) (hts _ (hlk _ (by simp [zmlw]))) (src := b + sc.toNat) (dst := b + d.toNat) (cs := vp_cell (cy 1) (n0', .inr (.inl (fun j => zgJ ν (f j))))) (cd := vp_cell (cy 1) (n1, .inr (.inl (fun j => zgJ ν (g j))))) (srcPos := Int32.ofInt sp) (destPos := Int32.ofInt dp) (n := Int32.ofInt n) (by rw [hT]; exact hc0) (by rw [hT]; exact hc1)
            (fun _ h => by cases h) (fun _ h => by cases h) (fun h => by cases h) (fun h => by cases h) hk0' hk1' hkk0 hkk1 (by simp [refKind, ztya]) g5 g3 g1
            (by rw [es, en]; show ¬ _ > ((arrV (cy 1) n0' (fun j => .long (zgJ ν (f j)))).slots.size : Int); rw [arrV_size]; show ¬ ((ss : Int) + (nn : Int) > (n0' : Int)); omega)
            (by rw [ed, en]; show ¬ _ > ((arrV (cy 1) n1 (fun j => .long (zgJ ν (g j)))).slots.size : Int); rw [arrV_size]; show ¬ ((dd : Int) + (nn : Int) > (n1 : Int)); omega)
            (fun vm₁ _ i hi => by
              rw [g2] at hi
              have e : (vp_cell (cy 1) (n0', .inr (.inl (fun j => zgJ ν (f j))))).slots.getD ((Int32.ofInt sp).toNatClampNeg + i) .null = .long (zgJ ν (f ((Int32.ofInt sp).toNatClampNeg + i))) := by
                show (arrV (cy 1) n0' (fun j => .long (zgJ ν (f j)))).slots.getD _ _ = _
                rw [Array.getD_eq_getD_getElem?, arrV_read _ _ (by rw [g6]; omega)]
                rfl
              refine ⟨?_, ?_⟩
              · rw [e]
                rfl
              · rw [e]
                exact trivial)
            (g := F0 m pc Ls (((0, n) :: (0, dp) :: (4, d) :: (0, sp) :: (4, sc) :: st').map (zg ν b))) rfl (by rw [hml]; exact hL.1) (rest := st'.map (zg ν b)) rfl (by rw [hb]; exact hdg) hR1 (by
              show 2 * 0 + ((st'.map (zg ν b)).map fun v => v.category).sum + _ ≤ _
              rw [zcat_sum]
              have : nativeFrameWords "java/lang/System" "arraycopy" 5 = 7 := by decide
              omega)
          have e1 : copied (vp_cell (cy 1) (n0', .inr (.inl (fun j => zgJ ν (f j))))) (vp_cell (cy 1) (n1, .inr (.inl (fun j => zgJ ν (g j))))) (Int32.ofInt sp) (Int32.ofInt dp) (Int32.ofInt n) = vp_cell (cy 1) (n1, .inr (.inl (va_cpy (fun j => zgJ ν (f j)) (fun j => zgJ ν (g j)) (Int32.ofInt sp).toNatClampNeg (Int32.ofInt dp).toNatClampNeg (Int32.ofInt n).toNatClampNeg))) := va_copied (fun z => Value.long z) (cy 1) (cy 1) (n0 := n0') (n1 := n1) (sp := (Int32.ofInt sp).toNatClampNeg) (dp := (Int32.ofInt dp).toNatClampNeg) (n := (Int32.ofInt n).toNatClampNeg) (fun j => zgJ ν (f j)) (fun j => zgJ ν (g j)) (by rw [g6, g2]; exact h4)
          rw [e1, g2, g4, g6] at X' step
          have hl : b + d.toNat < H.size := (Array.getElem?_eq_some_iff.mp hc1).1
          have hheap : ((T.setVm vm').setCell (b + d.toNat) (vp_cell (cy 1) (n1, .inr (.inl (va_cpy (fun j => zgJ ν (f j)) (fun j => zgJ ν (g j)) ss dd nn))))).heap = H.setIfInBounds (b + d.toNat) (vp_cell (cy 1) (n1, .inr (.inl (va_cpy (fun j => zgJ ν (f j)) (fun j => zgJ ν (g j)) ss dd nn)))) := by rw [← hT]; rfl
          have oq : ∀ q : Nat, q ≠ b + d.toNat → (H.setIfInBounds (b + d.toNat) (vp_cell (cy 1) (n1, .inr (.inl (va_cpy (fun j => zgJ ν (f j)) (fun j => zgJ ν (g j)) ss dd nn)))))[q]? = H[q]? := fun q hq => by simp [Array.getElem?_setIfInBounds, Ne.symm hq]
          have k3 : ∀ lc : List Loc, va_S (fun q : Nat => b ≤ q) s.heap (H.setIfInBounds (b + d.toNat) (vp_cell (cy 1) (n1, .inr (.inl (va_cpy (fun j => zgJ ν (f j)) (fun j => zgJ ν (g j)) ss dd nn))))) lc → W p l e R s m args below meth c (H.setIfInBounds (b + d.toNat) (vp_cell (cy 1) (n1, .inr (.inl (va_cpy (fun j => zgJ ν (f j)) (fun j => zgJ ν (g j)) ss dd nn))))) lc (h.length - n0) (zsl h - s0) Q (F0 m (pc + 3) Ls (st'.map (zg ν b))) := by
            intro lc hlc
            have k4 := kk (H.setIfInBounds (b + d.toNat) (vp_cell (cy 1) (n1, .inr (.inl (va_cpy (fun j => zgJ ν (f j)) (fun j => zgJ ν (g j)) ss dd nn))))) Ls lc (by rw [List.length_set, Array.size_setIfInBounds]; exact hH) (zput_back (c1 := .inr (1, n1, zcpy f g ss dd nn)) hP hk1 (show (H.setIfInBounds (b + d.toNat) _)[b + d.toNat]? = some (vp_cell (cy 1) (n1, .inr (.inl (fun x => zgJ ν (zcpy f g ss dd nn x))))) by
              rw [zcpy_J]
              simp [Array.getElem?_setIfInBounds, hl]) oq) hlc hL
            rw [List.length_set, hz2] at k4
            exact k4
          have k5 := fun hlc => k3 _ hlc _ hheap X'
          obtain ⟨t, a1, b1⟩ := k5 ⟨by rw [Array.size_setIfInBounds]; exact hS.1, fun q g1 g2 => by
              rw [oq q (fun e => g2 (by rw [e]; exact Nat.le_add_right _ _))]
              exact hS.2.1 q g1 g2, fun q hq => by
              rcases List.mem_append.mp hq with h | h
              · exact hS.2.2 q h
              · obtain ⟨z, -, hz⟩ := List.mem_map.mp h
                rw [← hz]
                exact Nat.le_add_right _ _⟩
          exact ⟨t, step t a1, b1⟩
      next => cases hd
    next => cases hd
  next => cases hd
theorem ok_stat (C : zCx p s m args meth c D cy ν bd b nL own ini ret cc) {d : Nat} {call : zCall} (hc : zCO l D cy ν b d call) (hmok : ∀ y q, zm y = some q → zMOK q) (hR1 : d + 1 ≤ R.frames) (hR2 : 36 * (d + 1) ≤ R.locals) {ix : Nat} : zOK p l e R s m args below meth c Q D cy ν b nL n0 s0 cc (.invokestatic ix) (hd_stat call zna (zml own ix)) := by
  have C2 := C
  obtain ⟨hx, hb, hml, hown, hK, hts, -⟩ := C
  intro pc ls st h pc' ls' st' h' hd hdec
  unfold hd_stat at hd
  have hdg := zdec (k := 3) hdec rfl (by decide)
  have main : ∀ k y, zml own ix = some (k, y) → (k = 2 ∨ k = 3) → cond (Nat.ble (zsum (st.drop (zna y))) 8 && Nat.beq (st.take (zna y)).length (zna y)) (zback call y (st.take (zna y)).reverse pc ls (st.drop (zna y)) h) none = some (.inl (pc', ls', st', h')) → (h.length ≤ h'.length ∧ zsl h ≤ zsl h') ∧ (n0 ≤ h.length → s0 ≤ zsl h → h'.length - n0 ≤ R.cells → zsl h' - s0 ≤ R.slots → zW p l e R s m args below meth c Q D cy ν b nL n0 s0 pc' ls' st' h' → zW p l e R s m args below meth c Q D cy ν b nL n0 s0 pc ls st h) := by
    intro k y ho hk hd
    obtain ⟨q, hq, hwm, hna, how, -⟩ := zml_ok ho (by omega)
    cases hcc : (Nat.ble (zsum (st.drop (zna y))) 8 && Nat.beq (st.take (zna y)).length (zna y)) with
    | false => rw [hcc] at hd; cases hd
    | true =>
      rw [hcc] at hd
      dsimp only [cond] at hd
      simp only [Bool.and_eq_true] at hcc
      obtain ⟨c2, c3⟩ := hcc
      have e2 : zsum (st.drop (zna y)) ≤ 8 := Nat.le_of_ble_eq_true c2
      have e3 : (st.take (zna y)).length = zna y := Nat.eq_of_beq_eq_true c3
      unfold zback at hd
      split at hd
      next v h1 hcall =>
        cases hd
        obtain ⟨⟨mo1, mo2⟩, hM⟩ := hc y _ h v h' q hq hcall
        refine ⟨⟨mo1, mo2⟩, fun i1 i2 i3 i4 kk H Ls locs hH hP hS hL => ?_⟩
        obtain ⟨cb, w1, w2, w3, w4⟩ := zcallB (h := h) (h' := h') (hmok y q hq) hts hR1 hR2
        obtain ⟨t1, t2⟩ := ztake (ν := ν) (b := b) e3
        have hpre : PreS s H (zPc D cy ν b (st.take (zna y)).reverse h) (((st.take (zna y)).reverse).map (zg ν b)) := ⟨zPc_blind, fun U hU hW => ⟨rfl, by rw [hU]; exact hH, by rw [hU]; exact hP, zGd.warm hW hK hts⟩⟩
        have hst : (st.map (zg ν b)) = (((st.take (zna y)).reverse).map (zg ν b)).reverse ++ (st.drop (zna y)).map (zg ν b) := by rw [t2]; exact zsplit st (zna y)
        have hroom : 2 * (F0 m pc Ls (st.map (zg ν b))).monitorRoom + (((st.drop (zna y)).map (zg ν b)).map fun v => v.category).sum ≤ 8 := lv_room (by rw [zcat_sum]; exact e2)
        have hfit : (h.length - n0) + (h'.length - h.length) ≤ R.cells ∧ (zsl h - s0) + (zsl h' - zsl h) ≤ R.slots := ⟨by rw [zsub i1 mo1]; exact i3, by rw [zsub i2 mo2]; exact i4⟩
        have hrun : va_Run p l e R s m args below meth c H locs (h.length - n0) (zsl h - s0) (h'.length - h.length) (zsl h' - zsl h) (F0 m pc Ls (st.map (zg ν b))) ((st.drop (zna y)).map (zg ν b)) (zQc D cy ν b v h' (((st.take (zna y)).reverse).map (zg ν b)).toArray) (fun x : Nat => b ≤ x) := by
          rcases hk with rfl | rfl
          · exact va_runS (As := ((st.take (zna y)).reverse).map (zg ν b)) ⟨hx, hb, hml, hown, hts⟩ hM ⟨⟨cb.1, cb.2.1, cb.2.2.1, cb.2.2.2.1, cb.2.2.2.2.1, cb.2.2.2.2.2, w1, w2, w3, w4, hts _ (hwm _ (by simp [zmlw]))⟩, hts _ (hwm _ (by simp [zmlw]))⟩ hpre rfl (t1.trans hna) hL.1 hst hroom hdg hfit
          · exact va_runSN (As := ((st.take (zna y)).reverse).map (zg ν b)) (host := zhost) ⟨hx, hb, hml, hown, hts⟩ hM ⟨⟨⟨cb.1, cb.2.1, cb.2.2.1, cb.2.2.2.1, cb.2.2.2.2.1, cb.2.2.2.2.2⟩, w1, w2, w3, w4, hts _ (hwm _ (by simp [zmlw]))⟩, hts _ (hwm _ (by simp [zmlw])), trivial⟩ hpre rfl (t1.trans hna) hL.1 hst hroom hdg hfit
        refine zcallW hrun hS (fun H1 locs1 g1 g2 g3 => ?_)
        rw [zsub i1 mo1, zsub i2 mo2]
        have k1 := kk H1 Ls locs1 g1 g2 g3 hL
        rw [List.map_append] at k1
        cases v with
        | none => exact k1
        | some v => exact k1
      next => cases hd
  split at hd
  next o y ho => exact main 2 y ho (Or.inl rfl) hd
  next o y ho => exact main 3 y ho (Or.inr rfl) hd
  next o y ho => exact ok_copy (y := 0) C2 (zml_ok6 ho (by decide)) (by omega) (by omega) pc ls st h pc' ls' st' h' hd hdec
  next o y ho =>
    split at hd
    next y x r =>
      cases hcc : Nat.ble (zsum r) 8 with
      | false => rw [hcc] at hd; cases hd
      | true =>
        rw [hcc] at hd
        dsimp only [cond] at hd
        rw [zfI_eq] at hd
        have e2 : zsum r ≤ 8 := Nat.le_of_ble_eq_true hcc
        have hlk := zml_ok6 ho (by decide)
        cases hd
        refine ⟨⟨Nat.le_refl _, Nat.le_refl _⟩, fun i1 i2 i3 i4 kk H Ls locs hH hP hS hL => ?_⟩
        refine va_mmax hx hb (by rw [hml]; exact hL.1.symm) hown (index := ix) (hts _ (hlk _ (by simp [zmlw]))) (hts _ (hlk _ (by simp [zmlw]))) (hts _ (hlk _ (by simp [zmlw]))) (hts _ (hlk _ (by simp [zmlw]))) (by omega) (by rw [zcat_sum]; omega) i3 i4 hdg ?_
        have k1 := kk H Ls locs hH hP hS hL
        rw [List.map_cons, zg0] at k1
        exact k1
    next => cases hd
  next => cases hd
theorem ok_spec (C : zCx p s m args meth c D cy ν bd b nL own ini ret cc) {d : Nat} {call : zCall} (hc : zCO l D cy ν b d call) (hmok : ∀ y q, zm y = some q → zMOK q) (hR1 : d + 1 ≤ R.frames) (hR2 : 36 * (d + 1) ≤ R.locals) {ix : Nat} : zOK p l e R s m args below meth c Q D cy ν b nL n0 s0 cc (.invokespecial ix) (hd_spec call zna (zml own ix)) := by
  obtain ⟨hx, hb, hml, hown, hK, hts, -⟩ := C
  intro pc ls st h pc' ls' st' h' hd hdec
  unfold hd_spec at hd
  have hdg := zdec (k := 3) hdec rfl (by decide)
  split at hd
  next o y ho =>
    split at hd
    next a r =>
      cases hcc : Nat.ble (zsum r) 8 with
      | false => rw [hcc] at hd; cases hd
      | true =>
        rw [hcc] at hd
        cases hd
        have e2 : zsum st' ≤ 8 := Nat.le_of_ble_eq_true hcc
        have hlk := zml_ok6 ho (by decide)
        refine ⟨⟨Nat.le_refl _, Nat.le_refl _⟩, fun _ _ _ _ kk H Ls locs hH hP hS hL => ?_⟩
        exact W.objInit hx hb hown (hts _ (hlk _ (by simp [zmlw]))) (hts _ (hlk _ (by simp [zmlw]))) (hts _ (hlk _ (by simp [zmlw]))) rfl (by rw [hml]; exact hL.1) rfl hdg (by omega) (by show 2 * 0 + ((st'.map (zg ν b)).map fun v => v.category).sum + 12 ≤ R.locals; rw [zcat_sum]; omega) (kk H Ls locs hH hP hS hL)
    next => cases hd
  next o k y hk6 ho =>
    cases hk2 : (Nat.beq k 4 || Nat.beq k 5) with
    | false => rw [hk2] at hd; cases hd
    | true =>
      rw [hk2] at hd
      dsimp only [cond] at hd
      have hk : k = 4 ∨ k = 5 := by
        simp only [Bool.or_eq_true] at hk2
        rcases hk2 with h | h
        · exact Or.inl (Nat.eq_of_beq_eq_true h)
        · exact Or.inr (Nat.eq_of_beq_eq_true h)
      obtain ⟨q, hq, hwm, hna, how, hinit⟩ := zml_ok ho (by omega)
      obtain ⟨hname, hrk⟩ := hinit hk
      split at hd
      next a r hdr =>
        cases hcc : (Nat.ble (zsum r) 8 && Nat.beq (st.take (zna y)).length (zna y)) with
        | false => rw [hcc] at hd; cases hd
        | true =>
          rw [hcc] at hd
          dsimp only [cond] at hd
          simp only [Bool.and_eq_true] at hcc
          obtain ⟨c2, c3⟩ := hcc
          have e2 : zsum r ≤ 8 := Nat.le_of_ble_eq_true c2
          have e3 : (st.take (zna y)).length = zna y := Nat.eq_of_beq_eq_true c3
          unfold zback at hd
          split at hd
          next v h1 hcall =>
            cases hd
            obtain ⟨⟨mo1, mo2⟩, hM⟩ := hc y _ h v h' q hq hcall
            refine ⟨⟨mo1, mo2⟩, fun i1 i2 i3 i4 kk H Ls locs hH hP hS hL => ?_⟩
            have hret : q.2.2.2.1 = none := by
              have := (hmok y q hq).2.2.2.2.2.2.1
              rw [hrk] at this
              exact this
            obtain ⟨cb, w1, w2, w3, w4⟩ := zcallB (h := h) (h' := h') (hmok y q hq) hts hR1 hR2
            rw [hret] at cb w1 hM
            obtain ⟨t1, t2⟩ := ztake (ν := ν) (b := b) e3
            have hpre : PreS s H (zPc D cy ν b ((4, a) :: (st.take (zna y)).reverse) h) (.ref (b + a.toNat) :: ((st.take (zna y)).reverse).map (zg ν b)) := ⟨zPc_blind, fun U hU hW => ⟨rfl, by rw [hU]; exact hH, by rw [hU]; exact hP, zGd.warm hW hK hts⟩⟩
            have hst : (st.map (zg ν b)) = (((st.take (zna y)).reverse).map (zg ν b)).reverse ++ .ref (b + a.toNat) :: r.map (zg ν b) := by rw [t2, zsplit st (zna y), hdr]; rfl
            have hroom : 2 * (F0 m pc Ls (st.map (zg ν b))).monitorRoom + ((r.map (zg ν b)).map fun v => v.category).sum ≤ 8 := lv_room (by rw [zcat_sum]; exact e2)
            have hfit : (h.length - n0) + (h'.length - h.length) ≤ R.cells ∧ (zsl h - s0) + (zsl h' - zsl h) ≤ R.slots := ⟨by rw [zsub i1 mo1]; exact i3, by rw [zsub i2 mo2]; exact i4⟩
            have hrun : va_Run p l e R s m args below meth c H locs (h.length - n0) (zsl h - s0) (h'.length - h.length) (zsl h' - zsl h) (F0 m pc Ls (st.map (zg ν b))) (r.map (zg ν b)) (zQc D cy ν b v h' (Value.ref (b + a.toNat) :: ((st.take (zna y)).reverse).map (zg ν b)).toArray) (fun x : Nat => b ≤ x) := by
              rcases hk with rfl | rfl
              · exact va_runI (As := ((st.take (zna y)).reverse).map (zg ν b)) ⟨hx, hb, hml, hown, hts⟩ hM ⟨⟨cb.1, cb.2.1, cb.2.2.1, cb.2.2.2.1, cb.2.2.2.2.1, cb.2.2.2.2.2, w1, w2, w3, w4, hts _ (hwm _ (by simp [zmlw]))⟩, hname, hts _ (hwm _ (by simp [zmlw]))⟩ hpre rfl (t1.trans hna) hL.1 hst hroom hdg hfit
              · exact va_runIN (As := ((st.take (zna y)).reverse).map (zg ν b)) (host := zhost) ⟨hx, hb, hml, hown, hts⟩ hM ⟨⟨⟨cb.1, cb.2.1, cb.2.2.1, cb.2.2.2.1, cb.2.2.2.2.1, cb.2.2.2.2.2⟩, w1, w2, w3, w4, hts _ (hwm _ (by simp [zmlw]))⟩, hname, hts _ (hwm _ (by simp [zmlw]))⟩ hpre rfl (t1.trans hna) hL.1 hst hroom hdg hfit
            refine zcallW hrun hS (fun H1 locs1 g1 g2 g3 => ?_)
            rw [zsub i1 mo1, zsub i2 mo2]
            have k1 := kk H1 Ls locs1 g1 g2 g3 hL
            rw [List.map_append] at k1
            cases v with
            | none => exact k1
            | some v => exact k1
          next => cases hd
      next => cases hd
  next => cases hd
/-! answers -/
def zOKr (p : Program) (l : Launch) (e : Env) (R : Room) (s : State) (m : MethodId) (args : Array Value) (below : List Frame) (meth : Method) (c : Code) (Q : State → Prop) (D : va_G) (cy : Nat → ClassId) (ν : Nat → Int) (b nL n0 s0 : Nat) (cc : ByteArray) (i : Instr) (hd : zHd) : Prop :=
  ∀ (pc : Nat) (ls : zL) (st : List zV) (h : zH) (r : Option zV) (h' : zH), hd pc ls st h = some (.inr (r, h')) → (∃ n, decode cc pc = .ok (i, n) ∧ (n = zlen i ∨ zlen i = 0)) → h' = h ∧ (Q = MQ below (zQc D cy ν b r h) args s (h.length - n0) (zsl h - s0) (fun x : Nat => b ≤ x) → zW p l e R s m args below meth c Q D cy ν b nL n0 s0 pc ls st h)
def zrkok (rk : Nat) (ret : Option FieldType) : Prop := match rk with
  | 0 => ret = none
  | 1 => ret = some .int
  | 2 => ret = some .boolean
  | 3 => ret = some .long
  | _ => (∃ n, ret = some (.object n)) ∨ ∃ t, ret = some (.array t)
theorem ok_ret0 (C : zCx p s m args meth c D cy ν bd b nL own ini ret cc) {rk : Nat} (hr : zrkok rk ret) : zOKr p l e R s m args below meth c Q D cy ν b nL n0 s0 cc .ireturn (hd_ret rk 0) := by
  obtain ⟨hx, hb, hml, hown, hK, hts, hlocks, -, hrt, -⟩ := C
  intro pc ls st h r h' hd hdec
  have hdg := zdec (k := 1) hdec rfl (by decide)
  unfold hd_ret at hd
  split at hd
  next v =>
    split at hd
    next =>
      cases ht : zisI v with
      | false => rw [ht] at hd; cases hd
      | true =>
        rw [ht] at hd
        cases hd
        refine ⟨rfl, fun hQ H Ls locs hH hP hS hL => ?_⟩
        subst hQ
        rw [List.map_cons, zg_I ht]
        exact W.iret hx hb (hrt.trans hr) (fun t ht2 hW => ⟨by rw [Option.map_some, zg_I ht], by rw [ht2]; exact hH, by rw [ht2]; exact hP, hS.F ht2⟩) hS.2.2 hdg hlocks
    next =>
      cases ht : zbit v with
      | false => rw [ht] at hd; cases hd
      | true =>
        rw [ht] at hd
        cases hd
        refine ⟨rfl, fun hQ H Ls locs hH hP hS hL => ?_⟩
        subst hQ
        rw [List.map_cons, zg_I (zbit_I ht)]
        exact W.zret hx hb (hrt.trans hr) (zbit_nar ht) (fun t ht2 hW => ⟨by rw [Option.map_some, zg_I (zbit_I ht)], by rw [ht2]; exact hH, by rw [ht2]; exact hP, hS.F ht2⟩) hS.2.2 hdg hlocks
    next h0 => cases h0
    next h0 => cases h0
    next => cases hd
  next =>
    split at hd
    next h0 => cases h0
    next => cases hd
  next => cases hd
theorem ok_ret1 (C : zCx p s m args meth c D cy ν bd b nL own ini ret cc) {rk : Nat} (hr : zrkok rk ret) : zOKr p l e R s m args below meth c Q D cy ν b nL n0 s0 cc .lreturn (hd_ret rk 1) := by
  obtain ⟨hx, hb, hml, hown, hK, hts, hlocks, -, hrt, -⟩ := C
  intro pc ls st h r h' hd hdec
  have hdg := zdec (k := 1) hdec rfl (by decide)
  unfold hd_ret at hd
  split at hd
  next v =>
    split at hd
    next h0 => cases h0
    next h0 => cases h0
    next =>
      cases ht : zisJ v with
      | false => rw [ht] at hd; cases hd
      | true =>
        rw [ht] at hd
        cases hd
        refine ⟨rfl, fun hQ H Ls locs hH hP hS hL => ?_⟩
        subst hQ
        rw [List.map_cons, zg_J ht]
        exact W.lret hx hb (hrt.trans hr) (fun t ht2 hW => ⟨by rw [Option.map_some, zg_J ht], by rw [ht2]; exact hH, by rw [ht2]; exact hP, hS.F ht2⟩) hS.2.2 hdg hlocks
    next h0 => cases h0
    next => cases hd
  next =>
    split at hd
    next h0 => cases h0
    next => cases hd
  next => cases hd
theorem ok_ret2 (C : zCx p s m args meth c D cy ν bd b nL own ini ret cc) {rk : Nat} (hr : zrkok rk ret) : zOKr p l e R s m args below meth c Q D cy ν b nL n0 s0 cc .areturn (hd_ret rk 2) := by
  obtain ⟨hx, hb, hml, hown, hK, hts, hlocks, -, hrt, -⟩ := C
  intro pc ls st h r h' hd hdec
  have hdg := zdec (k := 1) hdec rfl (by decide)
  unfold hd_ret at hd
  split at hd
  next v =>
    split at hd
    next h0 => cases h0
    next h0 => cases h0
    next h0 => cases h0
    next =>
      cases ht : zisR v with
      | false => rw [ht] at hd; cases hd
      | true =>
        rw [ht] at hd
        cases hd
        refine ⟨rfl, fun hQ H Ls locs hH hP hS hL => ?_⟩
        subst hQ
        have hv : zg ν b v = .null ∨ ∃ x, zg ν b v = .ref x := by
          rw [zg_R ht]
          cases zgR b v with
          | none => exact Or.inl rfl
          | some x => exact Or.inr ⟨x, rfl⟩
        rw [List.map_cons]
        rcases hr with ⟨n, hr⟩ | ⟨t, hr⟩
        · exact W.aret hx hb (hrt.trans hr) (Or.inl ⟨n, rfl⟩) hv (fun t ht2 hW => ⟨rfl, by rw [ht2]; exact hH, by rw [ht2]; exact hP, hS.F ht2⟩) hS.2.2 hdg hlocks
        · exact W.aret hx hb (hrt.trans hr) (Or.inr ⟨t, rfl⟩) hv (fun t ht2 hW => ⟨rfl, by rw [ht2]; exact hH, by rw [ht2]; exact hP, hS.F ht2⟩) hS.2.2 hdg hlocks
    next => cases hd
  next =>
    split at hd
    next h0 => cases h0
    next => cases hd
  next => cases hd
theorem ok_ret3 (C : zCx p s m args meth c D cy ν bd b nL own ini ret cc) {rk : Nat} (hr : zrkok rk ret) : zOKr p l e R s m args below meth c Q D cy ν b nL n0 s0 cc .return_ (hd_ret rk 3) := by
  obtain ⟨hx, hb, hml, hown, hK, hts, hlocks, -, hrt, -⟩ := C
  intro pc ls st h r h' hd hdec
  have hdg := zdec (k := 1) hdec rfl (by decide)
  unfold hd_ret at hd
  split at hd
  next v =>
    split at hd
    next h0 => cases h0
    next h0 => cases h0
    next h0 => cases h0
    next h0 => cases h0
    next => cases hd
  next =>
    split at hd
    next =>
      cases hd
      refine ⟨rfl, fun hQ H Ls locs hH hP hS hL => ?_⟩
      subst hQ
      exact W.vret hx hb (hrt.trans hr) (fun t ht2 hW => ⟨rfl, by rw [ht2]; exact hH, by rw [ht2]; exact hP, hS.F ht2⟩) hS.2.2 hdg hlocks
    next => cases hd
  next => cases hd
end ZE
