/-- every one of the first n of a row is of a kind -/
noncomputable def zal2 (t : zV → Bool) (f : Nat → zV) (n : Nat) : Bool := Nat.rec (motive := fun _ => Bool) true (fun m ih => t (f m) && ih) n
theorem zal2_spec {t : zV → Bool} {f : Nat → zV} : ∀ {n : Nat}, zal2 t f n = true → ∀ i, i < n → t (f i) = true := by
  intro n
  induction n with
  | zero => intro _ i hi; omega
  | succ m ih =>
    intro h i hi
    have h' : (t (f m) && zal2 t f m) = true := h
    rw [Bool.and_eq_true] at h'
    by_cases e : i = m
    · subst e; exact h'.1
    · exact ih h'.2 i (by omega)
noncomputable def iops : Instr → zHd := zops (zexec lbd lF 7) lbd 8 3 1 false
noncomputable def ils (k : Nat) (i : Int) : zL := [(2, (0, i)), (0, (4, (lM : Int))), (1, (0, (k : Int)))]
noncomputable def iph (n pc : Nat) (ls : zL) (h : zH) (pc2 : Nat) (ls2 : zL) (cont : zH → Bool) : Bool := match zst iops zk_X8_image n pc ls [] h with
  | some (p, l, s, h2) => Nat.beq p pc2 && decide (l = ls2) && s.isEmpty && cont h2
  | none => false
noncomputable def iloA (k : Nat) (h : zH) (cont : zH → Bool) : Bool := match znth h lM with
  | some (.inl (8, fs)) => match znth fs 6, znth fs 41 with
    | some (4, .ofNat a), some (4, .ofNat b) => match znth h a, znth h b with
      | some (.inr (0, 960, f)), some (.inr (0, 2880, g)) => !Nat.beq a b && !Nat.beq lM b && zal2 zisI f 960 && cont (zset h (.inr (0, 2880, zlp f (960 * k) 960 0 g)) b)
      | _, _ => false
    | _, _ => false
  | _ => false
theorem iloA_spec {k : Nat} (hk : k ≤ 2) {h : zH} {cont : zH → Bool} (e : iloA k h cont = true) : ∃ h2, cont h2 = true ∧ ∀ n, zrun iops zk_X8_image (n + 16323) 47 (ils k 0) [] h = zrun iops zk_X8_image n 78 (ils k 960) [] h2 := by
  unfold iloA at e
  split at e
  next fs hM =>
    split at e
    next a b hfa hfb =>
      split at e
      next f g ha hb =>
        simp only [Bool.and_eq_true, Bool.not_eq_true'] at e
        obtain ⟨⟨⟨h1, h2⟩, h3⟩, h4⟩ := e
        exact ⟨_, h4, fun n => im_loA hk (Nat.ne_of_beq_eq_false h1) (Nat.ne_of_beq_eq_false h2) (zal2_spec h3) 960 0 h g rfl hM hfa hfb ha hb n⟩
      next => cases e
    next => cases e
  next => cases e
noncomputable def iloB (k : Nat) (h : zH) (cont : zH → Bool) : Bool := match znth h lM with
  | some (.inl (8, fs)) => match znth fs 29, znth fs 43 with
    | some (4, .ofNat a), some (4, .ofNat b) => match znth h a, znth h b with
      | some (.inr (1, 2400, f)), some (.inr (1, 7200, g)) => !Nat.beq a b && !Nat.beq lM b && zal2 zisJ f 2400 && cont (zset h (.inr (1, 7200, zlp f (2400 * k) 2400 0 g)) b)
      | _, _ => false
    | _, _ => false
  | _ => false
theorem iloB_spec {k : Nat} (hk : k ≤ 2) {h : zH} {cont : zH → Bool} (e : iloB k h cont = true) : ∃ h2, cont h2 = true ∧ ∀ n, zrun iops zk_X8_image (n + 40803) 111 (ils k 0) [] h = zrun iops zk_X8_image n 142 (ils k 2400) [] h2 := by
  unfold iloB at e
  split at e
  next fs hM =>
    split at e
    next a b hfa hfb =>
      split at e
      next f g ha hb =>
        simp only [Bool.and_eq_true, Bool.not_eq_true'] at e
        obtain ⟨⟨⟨h1, h2⟩, h3⟩, h4⟩ := e
        exact ⟨_, h4, fun n => im_loB hk (Nat.ne_of_beq_eq_false h1) (Nat.ne_of_beq_eq_false h2) (zal2_spec h3) 2400 0 h g rfl hM hfa hfb ha hb n⟩
      next => cases e
    next => cases e
  next => cases e
noncomputable def iloC (k : Nat) (h : zH) (cont : zH → Bool) : Bool := match znth h lM with
  | some (.inl (8, fs)) => match znth fs 36, znth fs 45 with
    | some (4, .ofNat a), some (4, .ofNat b) => match znth h a, znth h b with
      | some (.inr (1, 300, f)), some (.inr (1, 900, g)) => !Nat.beq a b && !Nat.beq lM b && zal2 zisJ f 300 && cont (zset h (.inr (1, 900, zlp f (300 * k) 300 0 g)) b)
      | _, _ => false
    | _, _ => false
  | _ => false
theorem iloC_spec {k : Nat} (hk : k ≤ 2) {h : zH} {cont : zH → Bool} (e : iloC k h cont = true) : ∃ h2, cont h2 = true ∧ ∀ n, zrun iops zk_X8_image (n + 5103) 154 (ils k 0) [] h = zrun iops zk_X8_image n 185 (ils k 300) [] h2 := by
  unfold iloC at e
  split at e
  next fs hM =>
    split at e
    next a b hfa hfb =>
      split at e
      next f g ha hb =>
        simp only [Bool.and_eq_true, Bool.not_eq_true'] at e
        obtain ⟨⟨⟨h1, h2⟩, h3⟩, h4⟩ := e
        exact ⟨_, h4, fun n => im_loC hk (Nat.ne_of_beq_eq_false h1) (Nat.ne_of_beq_eq_false h2) (zal2_spec h3) 300 0 h g rfl hM hfa hfb ha hb n⟩
      next => cases e
    next => cases e
  next => cases e
theorem iph_spec {n pc : Nat} {ls : zL} {h : zH} {pc2 : Nat} {ls2 : zL} {cont : zH → Bool} (e : iph n pc ls h pc2 ls2 cont = true) : ∃ h2, cont h2 = true ∧ ∀ m, zrun iops zk_X8_image (m + n) pc ls [] h = zrun iops zk_X8_image m pc2 ls2 [] h2 := by
  unfold iph at e
  split at e
  next p l s h2 hz =>
    simp only [Bool.and_eq_true, decide_eq_true_eq, List.isEmpty_iff] at e
    obtain ⟨⟨⟨h1, h3⟩, h4⟩, h5⟩ := e
    have h1 := Nat.eq_of_beq_eq_true h1
    subst h1 h3 h4
    exact ⟨h2, h5, fun m => zst_run m n hz⟩
  next => cases e
noncomputable def ifin (k F : Nat) (h : zH) : Bool := match zrun iops zk_X8_image F 185 (ils k 300) [] h with
  | some (some r2, h2) => decide (r2 = (0, 0)) && Nat.ble h2.length 10000 && Nat.ble (zsl h2) 3000000
  | _ => false
noncomputable def ichk (k : Nat) : Bool := match zexec lbd lF 8 135 [(4, 0), (0, (k : Int))] lx1 with
  | some (some r, h1) => decide (r = (0, 0)) && (match znth h1 lM with
    | some (.inl (8, _)) => true
    | _ => false) && iph 25 0 [(0, (4, (lM : Int))), (1, (0, (k : Int)))] h1 47 (ils k 0) (fun hA => iloA k hA (fun hA => iph 143 78 (ils k 960) hA 111 (ils k 0) (fun hB => iloB k hB (fun hB => iph 8 142 (ils k 2400) hB 154 (ils k 0) (fun hC => iloC k hC (fun hC => ifin k 937595 hC))))))
  | _ => false
theorem izm : zm 239 = some (yX8_image, cX8_image, 3, (some (.int)), 8, 1, 1, false, zk_X8_image) := rfl
theorem ichk_spec {k : Nat} (hk : k ≤ 2) (e : ichk k = true) : lchk false 135 239 [(0, (k : Int))] = true := by
  unfold ichk at e
  split at e
  next r h1 hx =>
    simp only [Bool.and_eq_true, decide_eq_true_eq] at e
    obtain ⟨⟨hr, hm⟩, e⟩ := e
    obtain ⟨hA, e, z1⟩ := iph_spec e
    obtain ⟨hA2, e, z2⟩ := iloA_spec hk e
    obtain ⟨hB, e, z3⟩ := iph_spec e
    obtain ⟨hB2, e, z4⟩ := iloB_spec hk e
    obtain ⟨hC, e, z5⟩ := iph_spec e
    obtain ⟨hC2, e, z6⟩ := iloC_spec hk e
    have w : zexec lbd lF 8 239 [(4, (lM : Int)), (0, (k : Int))] h1 = zrun iops zk_X8_image 937595 185 (ils k 300) [] hC2 := by
      refine Eq.trans ?_ ((z1 999975).trans ((z2 983652).trans ((z3 983509).trans ((z4 942706).trans ((z5 942698).trans (z6 937595))))))
      show zbody (zexec lbd lF 7) lbd lF 239 [(4, (lM : Int)), (0, (k : Int))] h1 = _
      have ef : 999975 + 25 = lF := by decide
      rw [ef]
      unfold zbody
      rw [izm]
      have e1 : Nat.ble (zsum [(4, (lM : Int)), (0, (k : Int))]) 3 = true := rfl
      have e2 : zargs [(4, (lM : Int)), (0, (k : Int))] 0 = [(0, (4, (lM : Int))), (1, (0, (k : Int)))] := rfl
      dsimp only
      rw [e1, cond_true, e2]
      unfold iops
      with_reducible rfl
    unfold ifin at e
    split at e
    next r2 h2 hz =>
      simp only [Bool.and_eq_true, decide_eq_true_eq] at e
      obtain ⟨⟨hr2, hl⟩, hs⟩ := e
      unfold lchk lchkG
      split at hm
      next fs hM =>
        simp only [hx, hM, w, hz, hl, hs, hr, hr2]
        rfl
      next => cases hm
    next => cases e
  next => cases e
set_option maxRecDepth 1000000 in
theorem ichk_0 : ichk 0 = true := by decide +kernel
set_option maxRecDepth 1000000 in
theorem ichk_1 : ichk 1 = true := by decide +kernel
set_option maxRecDepth 1000000 in
theorem ichk_2 : ichk 2 = true := by decide +kernel
theorem la_image_1 : lchk false 135 239 [(0, 0)] = true := ichk_spec (k := 0) (by omega) ichk_0
theorem la_image_2 : lchk false 135 239 [(0, 1)] = true := ichk_spec (k := 1) (by omega) ichk_1
theorem la_image_3 : lchk false 135 239 [(0, 2)] = true := ichk_spec (k := 2) (by omega) ichk_2
