set_option maxHeartbeats 4000000 in
set_option maxRecDepth 100000 in
theorem c_X11_setFour_1 (l : Launch) (dC : Nat → ClassId) (dI : Nat → Nat → Nat) (a0 : Nat) (p1 : Int32) (g2 : ClassId) (sz : Nat) : Met l yX11_setFour (Cond.code yX11_setFour cX11_setFour 3 none :: wB) { frames := 0, cells := 0, slots := 0, locals := 0 } (va_Pc [.ref a0, .int 0, .int p1] (pX (dC, dI) sz [(a0, .inl (g2, 65000, .inl (fun _ => 0)))] [(g2, .byte)])) (va_Qv (fun _ : (Nat → Int32) => True) (fun z t => qX (dC, dI) [(a0, .inl (g2, 65000, .inl z))] [(g2, .byte)] (va_A [(a0, .inl (g2, 65000, .inl (fun _ => 0)))] sz) t) (va_A [(a0, .inl (g2, 65000, .inl (fun _ => 0)))] sz)) 0 0 (va_A [(a0, .inl (g2, 65000, .inl (fun _ => 0)))] sz) := by
  refine Met.ofW (cc := cX11_setFour) (maxL := 3) (ret := none) (by decide) rfl ?_
  intro p e s m args below meth c s₁ B hml hv
  obtain ⟨rfl, hsz, hP, hK, hD0, hN⟩ := hv
  have hx := B.exec
  have hb := B.bytes
  have hr := B.returns
  have hts : ∀ w ∈ wB, w.before _ s = true := fun w h => atoms_spec (ws := Cond.code yX11_setFour cX11_setFour 3 none :: wB) B.pre w (List.mem_cons_of_mem _ h)
  have hown : s.vm.findClass RX11 = some m.cls := findClass_of_methodNamed B.named
  have hlocks := B.notSynchronized
  subst hsz
  have hD := hD0.self (sz := s.heap.size)
  generalize hAe : va_A [(a0, .inl (g2, 65000, .inl (fun _ => 0)))] s.heap.size = A at hD ⊢
  have hA : ∀ q : Nat, s.heap.size ≤ q → A q := fun q h => by rw [← hAe]; exact Or.inr h
  have hS : va_S A s.heap s.heap [] := va_S.rf
  have hP : va_P (dC, dI) vwCl [(a0, .inl (g2, 65000, .inl (fun _ => 0)))] s.heap := hP
  have hl := lv_entry ([.ref a0, .int 0, .int p1]) (n := 3) (Nat.le_of_ble_eq_true rfl)
  rw [lg_entry_eq]
  generalize (lg_sl ([.ref a0, .int 0, .int p1]) ++ List.replicate (3 - (lg_sl ([.ref a0, .int 0, .int p1])).length) Slot.unset).toArray = ls at hl ⊢
  have hl : lv_has ls 3 [(0, .ref a0), (1, .int 0), (2, .int p1)] := hl
  refine lv_aload_n hx hb dX11_setFour_0 rfl (lv_at hl 0 rfl) ?_
  refine lv_iload_n hx hb dX11_setFour_1 rfl (lv_at hl 1 rfl) ?_
  refine lv_iload_n hx hb dX11_setFour_2 rfl (lv_at hl 2 rfl) ?_
  refine lv_bipush (v := 24) hx hb dX11_setFour_3 (by decide) ?_
  obtain ⟨x1, ex1⟩ : ∃ y : Int32, _ = y := ⟨_, rfl⟩
  refine lv_iushr (v := x1) hx hb dX11_setFour_5 ex1 ?_
  refine lv_i2b hx hb dX11_setFour_6 rfl ?_
  refine lv_topi (fun x2 ex2 => ?_)
  refine ba_any hx hb hK hP hD hS 0 0 rfl rfl (inI (by decide)) dX11_setFour_7 (fun f3 H locs hP hD hS => ?_)
  have hP : va_P (dC, dI) vwCl [(a0, .inl (g2, 65000, .inl f3))] H := hP
  have hD : va_D A [(a0, .inl (g2, 65000, .inl f3))] := hD
  refine lv_aload_n hx hb dX11_setFour_8 rfl (lv_at hl 0 rfl) ?_
  refine lv_iload_n hx hb dX11_setFour_9 rfl (lv_at hl 1 rfl) ?_
  refine lv_iconst (v := 1) hx hb dX11_setFour_10 (by decide) ?_
  refine lv_iadd hx hb dX11_setFour_11 ?_
  refine lv_is 1 (by decide) ?_
  refine lv_iload_n hx hb dX11_setFour_12 rfl (lv_at hl 2 rfl) ?_
  refine lv_bipush (v := 16) hx hb dX11_setFour_13 (by decide) ?_
  obtain ⟨x4, ex4⟩ : ∃ y : Int32, _ = y := ⟨_, rfl⟩
  refine lv_iushr (v := x4) hx hb dX11_setFour_15 ex4 ?_
  refine lv_i2b hx hb dX11_setFour_16 rfl ?_
  refine lv_topi (fun x5 ex5 => ?_)
  refine ba_any hx hb hK hP hD hS 0 0 rfl rfl (inI (by decide)) dX11_setFour_17 (fun f6 H locs hP hD hS => ?_)
  have hP : va_P (dC, dI) vwCl [(a0, .inl (g2, 65000, .inl f6))] H := hP
  have hD : va_D A [(a0, .inl (g2, 65000, .inl f6))] := hD
  refine lv_aload_n hx hb dX11_setFour_18 rfl (lv_at hl 0 rfl) ?_
  refine lv_iload_n hx hb dX11_setFour_19 rfl (lv_at hl 1 rfl) ?_
  refine lv_iconst (v := 2) hx hb dX11_setFour_20 (by decide) ?_
  refine lv_iadd hx hb dX11_setFour_21 ?_
  refine lv_is 2 (by decide) ?_
  refine lv_iload_n hx hb dX11_setFour_22 rfl (lv_at hl 2 rfl) ?_
  refine lv_bipush (v := 8) hx hb dX11_setFour_23 (by decide) ?_
  obtain ⟨x7, ex7⟩ : ∃ y : Int32, _ = y := ⟨_, rfl⟩
  refine lv_iushr (v := x7) hx hb dX11_setFour_25 ex7 ?_
  refine lv_i2b hx hb dX11_setFour_26 rfl ?_
  refine lv_topi (fun x8 ex8 => ?_)
  refine ba_any hx hb hK hP hD hS 0 0 rfl rfl (inI (by decide)) dX11_setFour_27 (fun f9 H locs hP hD hS => ?_)
  have hP : va_P (dC, dI) vwCl [(a0, .inl (g2, 65000, .inl f9))] H := hP
  have hD : va_D A [(a0, .inl (g2, 65000, .inl f9))] := hD
  refine lv_aload_n hx hb dX11_setFour_28 rfl (lv_at hl 0 rfl) ?_
  refine lv_iload_n hx hb dX11_setFour_29 rfl (lv_at hl 1 rfl) ?_
  refine lv_iconst (v := 3) hx hb dX11_setFour_30 (by decide) ?_
  refine lv_iadd hx hb dX11_setFour_31 ?_
  refine lv_is 3 (by decide) ?_
  refine lv_iload_n hx hb dX11_setFour_32 rfl (lv_at hl 2 rfl) ?_
  refine lv_i2b hx hb dX11_setFour_33 rfl ?_
  refine lv_topi (fun x10 ex10 => ?_)
  refine ba_any hx hb hK hP hD hS 0 0 rfl rfl (inI (by decide)) dX11_setFour_34 (fun f11 H locs hP hD hS => ?_)
  have hP : va_P (dC, dI) vwCl [(a0, .inl (g2, 65000, .inl f11))] H := hP
  have hD : va_D A [(a0, .inl (g2, 65000, .inl f11))] := hD
  have hP9 := hP.sub (ws' := [(a0, .inl (g2, 65000, .inl f11))]) [0] rfl
  have hD9 := hD.sub (ws' := [(a0, .inl (g2, 65000, .inl f11))]) [0] (by decide) rfl
  have hK9 := hK.sub (tys' := [(g2, .byte)]) [0] rfl
  refine W.widen (k := 0) (n := 0) (Nat.le_of_ble_eq_true rfl) (Nat.le_of_ble_eq_true rfl) ?_
  exact W.vret hx hb hr (fun t ht hW => ⟨⟨(f11), rfl, trivial, by rw [ht]; exact hP9, va_K.moved hW.alike hK9, hD9⟩, hS.F ht⟩) hS.2.2 dX11_setFour_35
set_option maxHeartbeats 4000000 in
set_option maxRecDepth 100000 in
theorem c_X11_setFour_2 (l : Launch) (dC : Nat → ClassId) (dI : Nat → Nat → Nat) (a0 : Nat) (p1 : Int32) (g2 : ClassId) (u3 : Nat → Int32) (sz : Nat) : Met l yX11_setFour (Cond.code yX11_setFour cX11_setFour 3 none :: wB) { frames := 0, cells := 0, slots := 0, locals := 0 } (va_Pc [.ref a0, .int 4, .int p1] (pX (dC, dI) sz [(a0, .inl (g2, 65000, .inl u3))] [(g2, .byte)])) (va_Qv (fun _ : (Nat → Int32) => True) (fun z t => qX (dC, dI) [(a0, .inl (g2, 65000, .inl z))] [(g2, .byte)] (va_A [(a0, .inl (g2, 65000, .inl u3))] sz) t) (va_A [(a0, .inl (g2, 65000, .inl u3))] sz)) 0 0 (va_A [(a0, .inl (g2, 65000, .inl u3))] sz) := by
  refine Met.ofW (cc := cX11_setFour) (maxL := 3) (ret := none) (by decide) rfl ?_
  intro p e s m args below meth c s₁ B hml hv
  obtain ⟨rfl, hsz, hP, hK, hD0, hN⟩ := hv
  have hx := B.exec
  have hb := B.bytes
  have hr := B.returns
  have hts : ∀ w ∈ wB, w.before _ s = true := fun w h => atoms_spec (ws := Cond.code yX11_setFour cX11_setFour 3 none :: wB) B.pre w (List.mem_cons_of_mem _ h)
  have hown : s.vm.findClass RX11 = some m.cls := findClass_of_methodNamed B.named
  have hlocks := B.notSynchronized
  subst hsz
  have hD := hD0.self (sz := s.heap.size)
  generalize hAe : va_A [(a0, .inl (g2, 65000, .inl u3))] s.heap.size = A at hD ⊢
  have hA : ∀ q : Nat, s.heap.size ≤ q → A q := fun q h => by rw [← hAe]; exact Or.inr h
  have hS : va_S A s.heap s.heap [] := va_S.rf
  have hP : va_P (dC, dI) vwCl [(a0, .inl (g2, 65000, .inl u3))] s.heap := hP
  have hl := lv_entry ([.ref a0, .int 4, .int p1]) (n := 3) (Nat.le_of_ble_eq_true rfl)
  rw [lg_entry_eq]
  generalize (lg_sl ([.ref a0, .int 4, .int p1]) ++ List.replicate (3 - (lg_sl ([.ref a0, .int 4, .int p1])).length) Slot.unset).toArray = ls at hl ⊢
  have hl : lv_has ls 3 [(0, .ref a0), (1, .int 4), (2, .int p1)] := hl
  refine lv_aload_n hx hb dX11_setFour_0 rfl (lv_at hl 0 rfl) ?_
  refine lv_iload_n hx hb dX11_setFour_1 rfl (lv_at hl 1 rfl) ?_
  refine lv_iload_n hx hb dX11_setFour_2 rfl (lv_at hl 2 rfl) ?_
  refine lv_bipush (v := 24) hx hb dX11_setFour_3 (by decide) ?_
  obtain ⟨x1, ex1⟩ : ∃ y : Int32, _ = y := ⟨_, rfl⟩
  refine lv_iushr (v := x1) hx hb dX11_setFour_5 ex1 ?_
  refine lv_i2b hx hb dX11_setFour_6 rfl ?_
  refine lv_topi (fun x2 ex2 => ?_)
  refine ba_any hx hb hK hP hD hS 0 0 rfl rfl (inI (by decide)) dX11_setFour_7 (fun f3 H locs hP hD hS => ?_)
  have hP : va_P (dC, dI) vwCl [(a0, .inl (g2, 65000, .inl f3))] H := hP
  have hD : va_D A [(a0, .inl (g2, 65000, .inl f3))] := hD
  refine lv_aload_n hx hb dX11_setFour_8 rfl (lv_at hl 0 rfl) ?_
  refine lv_iload_n hx hb dX11_setFour_9 rfl (lv_at hl 1 rfl) ?_
  refine lv_iconst (v := 1) hx hb dX11_setFour_10 (by decide) ?_
  refine lv_iadd hx hb dX11_setFour_11 ?_
  refine lv_is 5 (by decide) ?_
  refine lv_iload_n hx hb dX11_setFour_12 rfl (lv_at hl 2 rfl) ?_
  refine lv_bipush (v := 16) hx hb dX11_setFour_13 (by decide) ?_
  obtain ⟨x4, ex4⟩ : ∃ y : Int32, _ = y := ⟨_, rfl⟩
  refine lv_iushr (v := x4) hx hb dX11_setFour_15 ex4 ?_
  refine lv_i2b hx hb dX11_setFour_16 rfl ?_
  refine lv_topi (fun x5 ex5 => ?_)
  refine ba_any hx hb hK hP hD hS 0 0 rfl rfl (inI (by decide)) dX11_setFour_17 (fun f6 H locs hP hD hS => ?_)
  have hP : va_P (dC, dI) vwCl [(a0, .inl (g2, 65000, .inl f6))] H := hP
  have hD : va_D A [(a0, .inl (g2, 65000, .inl f6))] := hD
  refine lv_aload_n hx hb dX11_setFour_18 rfl (lv_at hl 0 rfl) ?_
  refine lv_iload_n hx hb dX11_setFour_19 rfl (lv_at hl 1 rfl) ?_
  refine lv_iconst (v := 2) hx hb dX11_setFour_20 (by decide) ?_
  refine lv_iadd hx hb dX11_setFour_21 ?_
  refine lv_is 6 (by decide) ?_
  refine lv_iload_n hx hb dX11_setFour_22 rfl (lv_at hl 2 rfl) ?_
  refine lv_bipush (v := 8) hx hb dX11_setFour_23 (by decide) ?_
  obtain ⟨x7, ex7⟩ : ∃ y : Int32, _ = y := ⟨_, rfl⟩
  refine lv_iushr (v := x7) hx hb dX11_setFour_25 ex7 ?_
  refine lv_i2b hx hb dX11_setFour_26 rfl ?_
  refine lv_topi (fun x8 ex8 => ?_)
  refine ba_any hx hb hK hP hD hS 0 0 rfl rfl (inI (by decide)) dX11_setFour_27 (fun f9 H locs hP hD hS => ?_)
  have hP : va_P (dC, dI) vwCl [(a0, .inl (g2, 65000, .inl f9))] H := hP
  have hD : va_D A [(a0, .inl (g2, 65000, .inl f9))] := hD
  refine lv_aload_n hx hb dX11_setFour_28 rfl (lv_at hl 0 rfl) ?_
  refine lv_iload_n hx hb dX11_setFour_29 rfl (lv_at hl 1 rfl) ?_
  refine lv_iconst (v := 3) hx hb dX11_setFour_30 (by decide) ?_
  refine lv_iadd hx hb dX11_setFour_31 ?_
  refine lv_is 7 (by decide) ?_
  refine lv_iload_n hx hb dX11_setFour_32 rfl (lv_at hl 2 rfl) ?_
  refine lv_i2b hx hb dX11_setFour_33 rfl ?_
  refine lv_topi (fun x10 ex10 => ?_)
  refine ba_any hx hb hK hP hD hS 0 0 rfl rfl (inI (by decide)) dX11_setFour_34 (fun f11 H locs hP hD hS => ?_)
  have hP : va_P (dC, dI) vwCl [(a0, .inl (g2, 65000, .inl f11))] H := hP
  have hD : va_D A [(a0, .inl (g2, 65000, .inl f11))] := hD
  have hP9 := hP.sub (ws' := [(a0, .inl (g2, 65000, .inl f11))]) [0] rfl
  have hD9 := hD.sub (ws' := [(a0, .inl (g2, 65000, .inl f11))]) [0] (by decide) rfl
  have hK9 := hK.sub (tys' := [(g2, .byte)]) [0] rfl
  refine W.widen (k := 0) (n := 0) (Nat.le_of_ble_eq_true rfl) (Nat.le_of_ble_eq_true rfl) ?_
  exact W.vret hx hb hr (fun t ht hW => ⟨⟨(f11), rfl, trivial, by rw [ht]; exact hP9, va_K.moved hW.alike hK9, hD9⟩, hS.F ht⟩) hS.2.2 dX11_setFour_35
set_option maxHeartbeats 4000000 in
set_option maxRecDepth 100000 in
theorem c_X11_setFour_3 (l : Launch) (dC : Nat → ClassId) (dI : Nat → Nat → Nat) (a0 : Nat) (p1 : Int32) (g2 : ClassId) (u3 : Nat → Int32) (sz : Nat) : Met l yX11_setFour (Cond.code yX11_setFour cX11_setFour 3 none :: wB) { frames := 0, cells := 0, slots := 0, locals := 0 } (va_Pc [.ref a0, .int 8, .int p1] (pX (dC, dI) sz [(a0, .inl (g2, 65000, .inl u3))] [(g2, .byte)])) (va_Qv (fun _ : (Nat → Int32) => True) (fun z t => qX (dC, dI) [(a0, .inl (g2, 65000, .inl z))] [(g2, .byte)] (va_A [(a0, .inl (g2, 65000, .inl u3))] sz) t) (va_A [(a0, .inl (g2, 65000, .inl u3))] sz)) 0 0 (va_A [(a0, .inl (g2, 65000, .inl u3))] sz) := by
  refine Met.ofW (cc := cX11_setFour) (maxL := 3) (ret := none) (by decide) rfl ?_
  intro p e s m args below meth c s₁ B hml hv
  obtain ⟨rfl, hsz, hP, hK, hD0, hN⟩ := hv
  have hx := B.exec
  have hb := B.bytes
  have hr := B.returns
  have hts : ∀ w ∈ wB, w.before _ s = true := fun w h => atoms_spec (ws := Cond.code yX11_setFour cX11_setFour 3 none :: wB) B.pre w (List.mem_cons_of_mem _ h)
  have hown : s.vm.findClass RX11 = some m.cls := findClass_of_methodNamed B.named
  have hlocks := B.notSynchronized
  subst hsz
  have hD := hD0.self (sz := s.heap.size)
  generalize hAe : va_A [(a0, .inl (g2, 65000, .inl u3))] s.heap.size = A at hD ⊢
  have hA : ∀ q : Nat, s.heap.size ≤ q → A q := fun q h => by rw [← hAe]; exact Or.inr h
  have hS : va_S A s.heap s.heap [] := va_S.rf
  have hP : va_P (dC, dI) vwCl [(a0, .inl (g2, 65000, .inl u3))] s.heap := hP
  have hl := lv_entry ([.ref a0, .int 8, .int p1]) (n := 3) (Nat.le_of_ble_eq_true rfl)
  rw [lg_entry_eq]
  generalize (lg_sl ([.ref a0, .int 8, .int p1]) ++ List.replicate (3 - (lg_sl ([.ref a0, .int 8, .int p1])).length) Slot.unset).toArray = ls at hl ⊢
  have hl : lv_has ls 3 [(0, .ref a0), (1, .int 8), (2, .int p1)] := hl
  refine lv_aload_n hx hb dX11_setFour_0 rfl (lv_at hl 0 rfl) ?_
  refine lv_iload_n hx hb dX11_setFour_1 rfl (lv_at hl 1 rfl) ?_
  refine lv_iload_n hx hb dX11_setFour_2 rfl (lv_at hl 2 rfl) ?_
  refine lv_bipush (v := 24) hx hb dX11_setFour_3 (by decide) ?_
  obtain ⟨x1, ex1⟩ : ∃ y : Int32, _ = y := ⟨_, rfl⟩
  refine lv_iushr (v := x1) hx hb dX11_setFour_5 ex1 ?_
  refine lv_i2b hx hb dX11_setFour_6 rfl ?_
  refine lv_topi (fun x2 ex2 => ?_)
  refine ba_any hx hb hK hP hD hS 0 0 rfl rfl (inI (by decide)) dX11_setFour_7 (fun f3 H locs hP hD hS => ?_)
  have hP : va_P (dC, dI) vwCl [(a0, .inl (g2, 65000, .inl f3))] H := hP
  have hD : va_D A [(a0, .inl (g2, 65000, .inl f3))] := hD
  refine lv_aload_n hx hb dX11_setFour_8 rfl (lv_at hl 0 rfl) ?_
  refine lv_iload_n hx hb dX11_setFour_9 rfl (lv_at hl 1 rfl) ?_
  refine lv_iconst (v := 1) hx hb dX11_setFour_10 (by decide) ?_
  refine lv_iadd hx hb dX11_setFour_11 ?_
  refine lv_is 9 (by decide) ?_
  refine lv_iload_n hx hb dX11_setFour_12 rfl (lv_at hl 2 rfl) ?_
  refine lv_bipush (v := 16) hx hb dX11_setFour_13 (by decide) ?_
  obtain ⟨x4, ex4⟩ : ∃ y : Int32, _ = y := ⟨_, rfl⟩
  refine lv_iushr (v := x4) hx hb dX11_setFour_15 ex4 ?_
  refine lv_i2b hx hb dX11_setFour_16 rfl ?_
  refine lv_topi (fun x5 ex5 => ?_)
  refine ba_any hx hb hK hP hD hS 0 0 rfl rfl (inI (by decide)) dX11_setFour_17 (fun f6 H locs hP hD hS => ?_)
  have hP : va_P (dC, dI) vwCl [(a0, .inl (g2, 65000, .inl f6))] H := hP
  have hD : va_D A [(a0, .inl (g2, 65000, .inl f6))] := hD
  refine lv_aload_n hx hb dX11_setFour_18 rfl (lv_at hl 0 rfl) ?_
  refine lv_iload_n hx hb dX11_setFour_19 rfl (lv_at hl 1 rfl) ?_
  refine lv_iconst (v := 2) hx hb dX11_setFour_20 (by decide) ?_
  refine lv_iadd hx hb dX11_setFour_21 ?_
  refine lv_is 10 (by decide) ?_
  refine lv_iload_n hx hb dX11_setFour_22 rfl (lv_at hl 2 rfl) ?_
  refine lv_bipush (v := 8) hx hb dX11_setFour_23 (by decide) ?_
  obtain ⟨x7, ex7⟩ : ∃ y : Int32, _ = y := ⟨_, rfl⟩
  refine lv_iushr (v := x7) hx hb dX11_setFour_25 ex7 ?_
  refine lv_i2b hx hb dX11_setFour_26 rfl ?_
  refine lv_topi (fun x8 ex8 => ?_)
  refine ba_any hx hb hK hP hD hS 0 0 rfl rfl (inI (by decide)) dX11_setFour_27 (fun f9 H locs hP hD hS => ?_)
  have hP : va_P (dC, dI) vwCl [(a0, .inl (g2, 65000, .inl f9))] H := hP
  have hD : va_D A [(a0, .inl (g2, 65000, .inl f9))] := hD
  refine lv_aload_n hx hb dX11_setFour_28 rfl (lv_at hl 0 rfl) ?_
  refine lv_iload_n hx hb dX11_setFour_29 rfl (lv_at hl 1 rfl) ?_
  refine lv_iconst (v := 3) hx hb dX11_setFour_30 (by decide) ?_
  refine lv_iadd hx hb dX11_setFour_31 ?_
  refine lv_is 11 (by decide) ?_
  refine lv_iload_n hx hb dX11_setFour_32 rfl (lv_at hl 2 rfl) ?_
  refine lv_i2b hx hb dX11_setFour_33 rfl ?_
  refine lv_topi (fun x10 ex10 => ?_)
  refine ba_any hx hb hK hP hD hS 0 0 rfl rfl (inI (by decide)) dX11_setFour_34 (fun f11 H locs hP hD hS => ?_)
  have hP : va_P (dC, dI) vwCl [(a0, .inl (g2, 65000, .inl f11))] H := hP
  have hD : va_D A [(a0, .inl (g2, 65000, .inl f11))] := hD
  have hP9 := hP.sub (ws' := [(a0, .inl (g2, 65000, .inl f11))]) [0] rfl
  have hD9 := hD.sub (ws' := [(a0, .inl (g2, 65000, .inl f11))]) [0] (by decide) rfl
  have hK9 := hK.sub (tys' := [(g2, .byte)]) [0] rfl
  refine W.widen (k := 0) (n := 0) (Nat.le_of_ble_eq_true rfl) (Nat.le_of_ble_eq_true rfl) ?_
  exact W.vret hx hb hr (fun t ht hW => ⟨⟨(f11), rfl, trivial, by rw [ht]; exact hP9, va_K.moved hW.alike hK9, hD9⟩, hS.F ht⟩) hS.2.2 dX11_setFour_35
set_option maxHeartbeats 4000000 in
set_option maxRecDepth 100000 in
theorem c_X11_setFour_4 (l : Launch) (dC : Nat → ClassId) (dI : Nat → Nat → Nat) (a0 : Nat) (p1 : Int32) (g2 : ClassId) (u3 : Nat → Int32) (sz : Nat) : Met l yX11_setFour (Cond.code yX11_setFour cX11_setFour 3 none :: wB) { frames := 0, cells := 0, slots := 0, locals := 0 } (va_Pc [.ref a0, .int 12, .int p1] (pX (dC, dI) sz [(a0, .inl (g2, 65000, .inl u3))] [(g2, .byte)])) (va_Qv (fun _ : (Nat → Int32) => True) (fun z t => qX (dC, dI) [(a0, .inl (g2, 65000, .inl z))] [(g2, .byte)] (va_A [(a0, .inl (g2, 65000, .inl u3))] sz) t) (va_A [(a0, .inl (g2, 65000, .inl u3))] sz)) 0 0 (va_A [(a0, .inl (g2, 65000, .inl u3))] sz) := by
  refine Met.ofW (cc := cX11_setFour) (maxL := 3) (ret := none) (by decide) rfl ?_
  intro p e s m args below meth c s₁ B hml hv
  obtain ⟨rfl, hsz, hP, hK, hD0, hN⟩ := hv
  have hx := B.exec
  have hb := B.bytes
  have hr := B.returns
  have hts : ∀ w ∈ wB, w.before _ s = true := fun w h => atoms_spec (ws := Cond.code yX11_setFour cX11_setFour 3 none :: wB) B.pre w (List.mem_cons_of_mem _ h)
  have hown : s.vm.findClass RX11 = some m.cls := findClass_of_methodNamed B.named
  have hlocks := B.notSynchronized
  subst hsz
  have hD := hD0.self (sz := s.heap.size)
  generalize hAe : va_A [(a0, .inl (g2, 65000, .inl u3))] s.heap.size = A at hD ⊢
  have hA : ∀ q : Nat, s.heap.size ≤ q → A q := fun q h => by rw [← hAe]; exact Or.inr h
  have hS : va_S A s.heap s.heap [] := va_S.rf
  have hP : va_P (dC, dI) vwCl [(a0, .inl (g2, 65000, .inl u3))] s.heap := hP
  have hl := lv_entry ([.ref a0, .int 12, .int p1]) (n := 3) (Nat.le_of_ble_eq_true rfl)
  rw [lg_entry_eq]
  generalize (lg_sl ([.ref a0, .int 12, .int p1]) ++ List.replicate (3 - (lg_sl ([.ref a0, .int 12, .int p1])).length) Slot.unset).toArray = ls at hl ⊢
  have hl : lv_has ls 3 [(0, .ref a0), (1, .int 12), (2, .int p1)] := hl
  refine lv_aload_n hx hb dX11_setFour_0 rfl (lv_at hl 0 rfl) ?_
  refine lv_iload_n hx hb dX11_setFour_1 rfl (lv_at hl 1 rfl) ?_
  refine lv_iload_n hx hb dX11_setFour_2 rfl (lv_at hl 2 rfl) ?_
  refine lv_bipush (v := 24) hx hb dX11_setFour_3 (by decide) ?_
  obtain ⟨x1, ex1⟩ : ∃ y : Int32, _ = y := ⟨_, rfl⟩
  refine lv_iushr (v := x1) hx hb dX11_setFour_5 ex1 ?_
  refine lv_i2b hx hb dX11_setFour_6 rfl ?_
  refine lv_topi (fun x2 ex2 => ?_)
  refine ba_any hx hb hK hP hD hS 0 0 rfl rfl (inI (by decide)) dX11_setFour_7 (fun f3 H locs hP hD hS => ?_)
  have hP : va_P (dC, dI) vwCl [(a0, .inl (g2, 65000, .inl f3))] H := hP
  have hD : va_D A [(a0, .inl (g2, 65000, .inl f3))] := hD
  refine lv_aload_n hx hb dX11_setFour_8 rfl (lv_at hl 0 rfl) ?_
  refine lv_iload_n hx hb dX11_setFour_9 rfl (lv_at hl 1 rfl) ?_
  refine lv_iconst (v := 1) hx hb dX11_setFour_10 (by decide) ?_
  refine lv_iadd hx hb dX11_setFour_11 ?_
  refine lv_is 13 (by decide) ?_
  refine lv_iload_n hx hb dX11_setFour_12 rfl (lv_at hl 2 rfl) ?_
  refine lv_bipush (v := 16) hx hb dX11_setFour_13 (by decide) ?_
  obtain ⟨x4, ex4⟩ : ∃ y : Int32, _ = y := ⟨_, rfl⟩
  refine lv_iushr (v := x4) hx hb dX11_setFour_15 ex4 ?_
  refine lv_i2b hx hb dX11_setFour_16 rfl ?_
  refine lv_topi (fun x5 ex5 => ?_)
  refine ba_any hx hb hK hP hD hS 0 0 rfl rfl (inI (by decide)) dX11_setFour_17 (fun f6 H locs hP hD hS => ?_)
  have hP : va_P (dC, dI) vwCl [(a0, .inl (g2, 65000, .inl f6))] H := hP
  have hD : va_D A [(a0, .inl (g2, 65000, .inl f6))] := hD
  refine lv_aload_n hx hb dX11_setFour_18 rfl (lv_at hl 0 rfl) ?_
  refine lv_iload_n hx hb dX11_setFour_19 rfl (lv_at hl 1 rfl) ?_
  refine lv_iconst (v := 2) hx hb dX11_setFour_20 (by decide) ?_
  refine lv_iadd hx hb dX11_setFour_21 ?_
  refine lv_is 14 (by decide) ?_
  refine lv_iload_n hx hb dX11_setFour_22 rfl (lv_at hl 2 rfl) ?_
  refine lv_bipush (v := 8) hx hb dX11_setFour_23 (by decide) ?_
  obtain ⟨x7, ex7⟩ : ∃ y : Int32, _ = y := ⟨_, rfl⟩
  refine lv_iushr (v := x7) hx hb dX11_setFour_25 ex7 ?_
  refine lv_i2b hx hb dX11_setFour_26 rfl ?_
  refine lv_topi (fun x8 ex8 => ?_)
  refine ba_any hx hb hK hP hD hS 0 0 rfl rfl (inI (by decide)) dX11_setFour_27 (fun f9 H locs hP hD hS => ?_)
  have hP : va_P (dC, dI) vwCl [(a0, .inl (g2, 65000, .inl f9))] H := hP
  have hD : va_D A [(a0, .inl (g2, 65000, .inl f9))] := hD
  refine lv_aload_n hx hb dX11_setFour_28 rfl (lv_at hl 0 rfl) ?_
  refine lv_iload_n hx hb dX11_setFour_29 rfl (lv_at hl 1 rfl) ?_
  refine lv_iconst (v := 3) hx hb dX11_setFour_30 (by decide) ?_
  refine lv_iadd hx hb dX11_setFour_31 ?_
  refine lv_is 15 (by decide) ?_
  refine lv_iload_n hx hb dX11_setFour_32 rfl (lv_at hl 2 rfl) ?_
  refine lv_i2b hx hb dX11_setFour_33 rfl ?_
  refine lv_topi (fun x10 ex10 => ?_)
  refine ba_any hx hb hK hP hD hS 0 0 rfl rfl (inI (by decide)) dX11_setFour_34 (fun f11 H locs hP hD hS => ?_)
  have hP : va_P (dC, dI) vwCl [(a0, .inl (g2, 65000, .inl f11))] H := hP
  have hD : va_D A [(a0, .inl (g2, 65000, .inl f11))] := hD
  have hP9 := hP.sub (ws' := [(a0, .inl (g2, 65000, .inl f11))]) [0] rfl
  have hD9 := hD.sub (ws' := [(a0, .inl (g2, 65000, .inl f11))]) [0] (by decide) rfl
  have hK9 := hK.sub (tys' := [(g2, .byte)]) [0] rfl
  refine W.widen (k := 0) (n := 0) (Nat.le_of_ble_eq_true rfl) (Nat.le_of_ble_eq_true rfl) ?_
  exact W.vret hx hb hr (fun t ht hW => ⟨⟨(f11), rfl, trivial, by rw [ht]; exact hP9, va_K.moved hW.alike hK9, hD9⟩, hS.F ht⟩) hS.2.2 dX11_setFour_35
set_option maxHeartbeats 4000000 in
set_option maxRecDepth 100000 in
theorem c_X11_setFour_5 (l : Launch) (dC : Nat → ClassId) (dI : Nat → Nat → Nat) (a0 : Nat) (p1 : Int32) (g2 : ClassId) (u3 : Nat → Int32) (sz : Nat) : Met l yX11_setFour (Cond.code yX11_setFour cX11_setFour 3 none :: wB) { frames := 0, cells := 0, slots := 0, locals := 0 } (va_Pc [.ref a0, .int 16, .int p1] (pX (dC, dI) sz [(a0, .inl (g2, 65000, .inl u3))] [(g2, .byte)])) (va_Qv (fun _ : (Nat → Int32) => True) (fun z t => qX (dC, dI) [(a0, .inl (g2, 65000, .inl z))] [(g2, .byte)] (va_A [(a0, .inl (g2, 65000, .inl u3))] sz) t) (va_A [(a0, .inl (g2, 65000, .inl u3))] sz)) 0 0 (va_A [(a0, .inl (g2, 65000, .inl u3))] sz) := by
  refine Met.ofW (cc := cX11_setFour) (maxL := 3) (ret := none) (by decide) rfl ?_
  intro p e s m args below meth c s₁ B hml hv
  obtain ⟨rfl, hsz, hP, hK, hD0, hN⟩ := hv
  have hx := B.exec
  have hb := B.bytes
  have hr := B.returns
  have hts : ∀ w ∈ wB, w.before _ s = true := fun w h => atoms_spec (ws := Cond.code yX11_setFour cX11_setFour 3 none :: wB) B.pre w (List.mem_cons_of_mem _ h)
  have hown : s.vm.findClass RX11 = some m.cls := findClass_of_methodNamed B.named
  have hlocks := B.notSynchronized
  subst hsz
  have hD := hD0.self (sz := s.heap.size)
  generalize hAe : va_A [(a0, .inl (g2, 65000, .inl u3))] s.heap.size = A at hD ⊢
  have hA : ∀ q : Nat, s.heap.size ≤ q → A q := fun q h => by rw [← hAe]; exact Or.inr h
  have hS : va_S A s.heap s.heap [] := va_S.rf
  have hP : va_P (dC, dI) vwCl [(a0, .inl (g2, 65000, .inl u3))] s.heap := hP
  have hl := lv_entry ([.ref a0, .int 16, .int p1]) (n := 3) (Nat.le_of_ble_eq_true rfl)
  rw [lg_entry_eq]
  generalize (lg_sl ([.ref a0, .int 16, .int p1]) ++ List.replicate (3 - (lg_sl ([.ref a0, .int 16, .int p1])).length) Slot.unset).toArray = ls at hl ⊢
  have hl : lv_has ls 3 [(0, .ref a0), (1, .int 16), (2, .int p1)] := hl
  refine lv_aload_n hx hb dX11_setFour_0 rfl (lv_at hl 0 rfl) ?_
  refine lv_iload_n hx hb dX11_setFour_1 rfl (lv_at hl 1 rfl) ?_
  refine lv_iload_n hx hb dX11_setFour_2 rfl (lv_at hl 2 rfl) ?_
  refine lv_bipush (v := 24) hx hb dX11_setFour_3 (by decide) ?_
  obtain ⟨x1, ex1⟩ : ∃ y : Int32, _ = y := ⟨_, rfl⟩
  refine lv_iushr (v := x1) hx hb dX11_setFour_5 ex1 ?_
  refine lv_i2b hx hb dX11_setFour_6 rfl ?_
  refine lv_topi (fun x2 ex2 => ?_)
  refine ba_any hx hb hK hP hD hS 0 0 rfl rfl (inI (by decide)) dX11_setFour_7 (fun f3 H locs hP hD hS => ?_)
  have hP : va_P (dC, dI) vwCl [(a0, .inl (g2, 65000, .inl f3))] H := hP
  have hD : va_D A [(a0, .inl (g2, 65000, .inl f3))] := hD
  refine lv_aload_n hx hb dX11_setFour_8 rfl (lv_at hl 0 rfl) ?_
  refine lv_iload_n hx hb dX11_setFour_9 rfl (lv_at hl 1 rfl) ?_
  refine lv_iconst (v := 1) hx hb dX11_setFour_10 (by decide) ?_
  refine lv_iadd hx hb dX11_setFour_11 ?_
  refine lv_is 17 (by decide) ?_
  refine lv_iload_n hx hb dX11_setFour_12 rfl (lv_at hl 2 rfl) ?_
  refine lv_bipush (v := 16) hx hb dX11_setFour_13 (by decide) ?_
  obtain ⟨x4, ex4⟩ : ∃ y : Int32, _ = y := ⟨_, rfl⟩
  refine lv_iushr (v := x4) hx hb dX11_setFour_15 ex4 ?_
  refine lv_i2b hx hb dX11_setFour_16 rfl ?_
  refine lv_topi (fun x5 ex5 => ?_)
  refine ba_any hx hb hK hP hD hS 0 0 rfl rfl (inI (by decide)) dX11_setFour_17 (fun f6 H locs hP hD hS => ?_)
  have hP : va_P (dC, dI) vwCl [(a0, .inl (g2, 65000, .inl f6))] H := hP
  have hD : va_D A [(a0, .inl (g2, 65000, .inl f6))] := hD
  refine lv_aload_n hx hb dX11_setFour_18 rfl (lv_at hl 0 rfl) ?_
  refine lv_iload_n hx hb dX11_setFour_19 rfl (lv_at hl 1 rfl) ?_
  refine lv_iconst (v := 2) hx hb dX11_setFour_20 (by decide) ?_
  refine lv_iadd hx hb dX11_setFour_21 ?_
  refine lv_is 18 (by decide) ?_
  refine lv_iload_n hx hb dX11_setFour_22 rfl (lv_at hl 2 rfl) ?_
  refine lv_bipush (v := 8) hx hb dX11_setFour_23 (by decide) ?_
  obtain ⟨x7, ex7⟩ : ∃ y : Int32, _ = y := ⟨_, rfl⟩
  refine lv_iushr (v := x7) hx hb dX11_setFour_25 ex7 ?_
  refine lv_i2b hx hb dX11_setFour_26 rfl ?_
  refine lv_topi (fun x8 ex8 => ?_)
  refine ba_any hx hb hK hP hD hS 0 0 rfl rfl (inI (by decide)) dX11_setFour_27 (fun f9 H locs hP hD hS => ?_)
  have hP : va_P (dC, dI) vwCl [(a0, .inl (g2, 65000, .inl f9))] H := hP
  have hD : va_D A [(a0, .inl (g2, 65000, .inl f9))] := hD
  refine lv_aload_n hx hb dX11_setFour_28 rfl (lv_at hl 0 rfl) ?_
  refine lv_iload_n hx hb dX11_setFour_29 rfl (lv_at hl 1 rfl) ?_
  refine lv_iconst (v := 3) hx hb dX11_setFour_30 (by decide) ?_
  refine lv_iadd hx hb dX11_setFour_31 ?_
  refine lv_is 19 (by decide) ?_
  refine lv_iload_n hx hb dX11_setFour_32 rfl (lv_at hl 2 rfl) ?_
  refine lv_i2b hx hb dX11_setFour_33 rfl ?_
  refine lv_topi (fun x10 ex10 => ?_)
  refine ba_any hx hb hK hP hD hS 0 0 rfl rfl (inI (by decide)) dX11_setFour_34 (fun f11 H locs hP hD hS => ?_)
  have hP : va_P (dC, dI) vwCl [(a0, .inl (g2, 65000, .inl f11))] H := hP
  have hD : va_D A [(a0, .inl (g2, 65000, .inl f11))] := hD
  have hP9 := hP.sub (ws' := [(a0, .inl (g2, 65000, .inl f11))]) [0] rfl
  have hD9 := hD.sub (ws' := [(a0, .inl (g2, 65000, .inl f11))]) [0] (by decide) rfl
  have hK9 := hK.sub (tys' := [(g2, .byte)]) [0] rfl
  refine W.widen (k := 0) (n := 0) (Nat.le_of_ble_eq_true rfl) (Nat.le_of_ble_eq_true rfl) ?_
  exact W.vret hx hb hr (fun t ht hW => ⟨⟨(f11), rfl, trivial, by rw [ht]; exact hP9, va_K.moved hW.alike hK9, hD9⟩, hS.F ht⟩) hS.2.2 dX11_setFour_35
set_option maxHeartbeats 4000000 in
set_option maxRecDepth 100000 in
theorem c_X11_feed_1 (l : Launch) (dC : Nat → ClassId) (dI : Nat → Nat → Nat) (a0 : Nat) (p1 : Int32) (p2 : Int32) (p3 : Int32) (p4 : Int32) (p5 : Int32) (a6 : Nat) (a7 : Nat) (a8 : Nat) (a9 : Nat) (a10 : Nat) (a11 : Nat) (a12 : Nat) (a13 : Nat) (a14 : Nat) (g15 : ClassId) (sz : Nat) : Met l yX11_feed (Cond.code yX11_feed cX11_feed 6 (some .int) :: wB) { frames := 1, cells := 0, slots := 0, locals := 22 } (va_Pc [.ref a0, .int p1, .int p2, .int p3, .int p4, .int p5] (pX (dC, dI) sz [(a0, .inr (11, [.ref a6, .ref a7, .ref a8, .ref a9, .ref a10, .ref a11, .ref a12, .ref a13, .ref a14, .int 0, .int 0, .int 0, .int (-1), .int 0, .int (-1)])), (a6, .inl (g15, 65000, .inl (fun _ => 0)))] [(g15, .byte)])) (va_Qi (fun (r : Int32) (z : Unit) => r = 20) (fun z t => qX (dC, dI) [] [] (va_A [(a0, .inr (11, [.ref a6, .ref a7, .ref a8, .ref a9, .ref a10, .ref a11, .ref a12, .ref a13, .ref a14, .int 0, .int 0, .int 0, .int (-1), .int 0, .int (-1)])), (a6, .inl (g15, 65000, .inl (fun _ => 0)))] sz) t) (va_A [(a0, .inr (11, [.ref a6, .ref a7, .ref a8, .ref a9, .ref a10, .ref a11, .ref a12, .ref a13, .ref a14, .int 0, .int 0, .int 0, .int (-1), .int 0, .int (-1)])), (a6, .inl (g15, 65000, .inl (fun _ => 0)))] sz)) 0 0 (va_A [(a0, .inr (11, [.ref a6, .ref a7, .ref a8, .ref a9, .ref a10, .ref a11, .ref a12, .ref a13, .ref a14, .int 0, .int 0, .int 0, .int (-1), .int 0, .int (-1)])), (a6, .inl (g15, 65000, .inl (fun _ => 0)))] sz) := by
  refine Met.ofW (cc := cX11_feed) (maxL := 6) (ret := (some .int)) (by decide) rfl ?_
  intro p e s m args below meth c s₁ B hml hv
  obtain ⟨rfl, hsz, hP, hK, hD0, hN⟩ := hv
  have hx := B.exec
  have hb := B.bytes
  have hr := B.returns
  have hts : ∀ w ∈ wB, w.before _ s = true := fun w h => atoms_spec (ws := Cond.code yX11_feed cX11_feed 6 (some .int) :: wB) B.pre w (List.mem_cons_of_mem _ h)
  have hown : s.vm.findClass RX11 = some m.cls := findClass_of_methodNamed B.named
  have hlocks := B.notSynchronized
  subst hsz
  have hD := hD0.self (sz := s.heap.size)
  generalize hAe : va_A [(a0, .inr (11, [.ref a6, .ref a7, .ref a8, .ref a9, .ref a10, .ref a11, .ref a12, .ref a13, .ref a14, .int 0, .int 0, .int 0, .int (-1), .int 0, .int (-1)])), (a6, .inl (g15, 65000, .inl (fun _ => 0)))] s.heap.size = A at hD ⊢
  have hA : ∀ q : Nat, s.heap.size ≤ q → A q := fun q h => by rw [← hAe]; exact Or.inr h
  have hS : va_S A s.heap s.heap [] := va_S.rf
  have hP : va_P (dC, dI) vwCl [(a0, .inr (11, [.ref a6, .ref a7, .ref a8, .ref a9, .ref a10, .ref a11, .ref a12, .ref a13, .ref a14, .int 0, .int 0, .int 0, .int (-1), .int 0, .int (-1)])), (a6, .inl (g15, 65000, .inl (fun _ => 0)))] s.heap := hP
  have hl := lv_entry ([.ref a0, .int p1, .int p2, .int p3, .int p4, .int p5]) (n := 6) (Nat.le_of_ble_eq_true rfl)
  rw [lg_entry_eq]
  generalize (lg_sl ([.ref a0, .int p1, .int p2, .int p3, .int p4, .int p5]) ++ List.replicate (6 - (lg_sl ([.ref a0, .int p1, .int p2, .int p3, .int p4, .int p5])).length) Slot.unset).toArray = ls at hl ⊢
  have hl : lv_has ls 6 [(0, .ref a0), (1, .int p1), (2, .int p2), (3, .int p3), (4, .int p4), (5, .int p5)] := hl
  refine lv_aload_n hx hb dX11_feed_0 rfl (lv_at hl 0 rfl) ?_
  refine va_get (D := (dC, dI)) (ci := 11) (v := .int 0) (C := RX11) (T := TX11) (N := 15) hx hb hts iX11 hown hK hP 0 rfl rfl 9 (by decide) (hts _ k180) (fun _ h9 => h9) rfl dX11_feed_1 ?_
  refine lv_ldc (own := RX11) (v := 64980) hx hb hown (hts _ k181) dX11_feed_4 ?_
  refine lv_icmp_le (tgt := 11) hx hb dX11_feed_6 (by decide) (fun _ => ?_) (fun c9 => absurd c9 (by decide))
  refine lv_aload_n hx hb dX11_feed_11 rfl (lv_at hl 0 rfl) ?_
  refine va_get (D := (dC, dI)) (ci := 11) (v := .ref a6) (C := RX11) (T := TX11) (N := 15) hx hb hts iX11 hown hK hP 0 rfl rfl 0 (by decide) (hts _ k6) (fun _ h9 => h9) rfl dX11_feed_12 ?_
  refine lv_aload_n hx hb dX11_feed_15 rfl (lv_at hl 0 rfl) ?_
  refine va_get (D := (dC, dI)) (ci := 11) (v := .int 0) (C := RX11) (T := TX11) (N := 15) hx hb hts iX11 hown hK hP 0 rfl rfl 9 (by decide) (hts _ k180) (fun _ h9 => h9) rfl dX11_feed_16 ?_
  refine lv_iload_n hx hb dX11_feed_19 rfl (lv_at hl 1 rfl) ?_
  refine xS_v (n := 3) (As := [.ref a6, .int 0, .int p1]) (rest := []) (wc := [(a6, .inl (g15, 65000, .inl (fun _ => 0)))]) (wr := [(a0, .inr (11, [.ref a6, .ref a7, .ref a8, .ref a9, .ref a10, .ref a11, .ref a12, .ref a13, .ref a14, .int 0, .int 0, .int 0, .int (-1), .int 0, .int (-1)]))]) (tc := [(g15, .byte)]) ⟨hx, hb, hml, hown, hts⟩ (c_X11_setFour_1 l dC dI a6 p1 g15 s.heap.size) ⟨k182, k183, k184, k185⟩ (by decide +kernel) rfl ⟨Nat.le_of_ble_eq_true rfl, Nat.le_of_ble_eq_true rfl⟩ ⟨Nat.le_of_ble_eq_true rfl, Nat.le_of_ble_eq_true rfl⟩ hK hP hD hS hA hN [1] [0] [0] rfl rfl (by decide) (by decide) rfl hl.1 rfl (Nat.le_of_ble_eq_true rfl) dX11_feed_20 (fun f1 H locs hw hK hP hD hS => ?_)
  have hK : va_K (dC, dI) vwCl [(g15, .byte), (g15, .byte)] s := hK
  have hP : va_P (dC, dI) vwCl [(a0, .inr (11, [.ref a6, .ref a7, .ref a8, .ref a9, .ref a10, .ref a11, .ref a12, .ref a13, .ref a14, .int 0, .int 0, .int 0, .int (-1), .int 0, .int (-1)])), (a6, .inl (g15, 65000, .inl f1))] H := hP
  have hD : va_D A [(a0, .inr (11, [.ref a6, .ref a7, .ref a8, .ref a9, .ref a10, .ref a11, .ref a12, .ref a13, .ref a14, .int 0, .int 0, .int 0, .int (-1), .int 0, .int (-1)])), (a6, .inl (g15, 65000, .inl f1))] := hD
  refine W.widen (k := 0) (n := 0) (Nat.le_of_ble_eq_true rfl) (Nat.le_of_ble_eq_true rfl) ?_
  have hK := hK.sub (tys' := [(g15, .byte)]) [0] rfl
  refine lv_aload_n hx hb dX11_feed_23 rfl (lv_at hl 0 rfl) ?_
  refine va_get (D := (dC, dI)) (ci := 11) (v := .ref a6) (C := RX11) (T := TX11) (N := 15) hx hb hts iX11 hown hK hP 0 rfl rfl 0 (by decide) (hts _ k6) (fun _ h9 => h9) rfl dX11_feed_24 ?_
  refine lv_aload_n hx hb dX11_feed_27 rfl (lv_at hl 0 rfl) ?_
  refine va_get (D := (dC, dI)) (ci := 11) (v := .int 0) (C := RX11) (T := TX11) (N := 15) hx hb hts iX11 hown hK hP 0 rfl rfl 9 (by decide) (hts _ k180) (fun _ h9 => h9) rfl dX11_feed_28 ?_
  refine lv_iconst (v := 4) hx hb dX11_feed_31 (by decide) ?_
  refine lv_iadd hx hb dX11_feed_32 ?_
  refine lv_is 4 (by decide) ?_
  refine lv_iload_n hx hb dX11_feed_33 rfl (lv_at hl 2 rfl) ?_
  refine xS_v (n := 3) (As := [.ref a6, .int 4, .int p2]) (rest := []) (wc := [(a6, .inl (g15, 65000, .inl f1))]) (wr := [(a0, .inr (11, [.ref a6, .ref a7, .ref a8, .ref a9, .ref a10, .ref a11, .ref a12, .ref a13, .ref a14, .int 0, .int 0, .int 0, .int (-1), .int 0, .int (-1)]))]) (tc := [(g15, .byte)]) ⟨hx, hb, hml, hown, hts⟩ (c_X11_setFour_2 l dC dI a6 p2 g15 f1 H.size) ⟨k182, k183, k184, k185⟩ (by decide +kernel) rfl ⟨Nat.le_of_ble_eq_true rfl, Nat.le_of_ble_eq_true rfl⟩ ⟨Nat.le_of_ble_eq_true rfl, Nat.le_of_ble_eq_true rfl⟩ hK hP hD hS hA hN [1] [0] [0] rfl rfl (by decide) (by decide) rfl hl.1 rfl (Nat.le_of_ble_eq_true rfl) dX11_feed_34 (fun f2 H locs hw hK hP hD hS => ?_)
  have hK : va_K (dC, dI) vwCl [(g15, .byte), (g15, .byte)] s := hK
  have hP : va_P (dC, dI) vwCl [(a0, .inr (11, [.ref a6, .ref a7, .ref a8, .ref a9, .ref a10, .ref a11, .ref a12, .ref a13, .ref a14, .int 0, .int 0, .int 0, .int (-1), .int 0, .int (-1)])), (a6, .inl (g15, 65000, .inl f2))] H := hP
  have hD : va_D A [(a0, .inr (11, [.ref a6, .ref a7, .ref a8, .ref a9, .ref a10, .ref a11, .ref a12, .ref a13, .ref a14, .int 0, .int 0, .int 0, .int (-1), .int 0, .int (-1)])), (a6, .inl (g15, 65000, .inl f2))] := hD
  refine W.widen (k := 0) (n := 0) (Nat.le_of_ble_eq_true rfl) (Nat.le_of_ble_eq_true rfl) ?_
  have hK := hK.sub (tys' := [(g15, .byte)]) [0] rfl
  refine lv_aload_n hx hb dX11_feed_37 rfl (lv_at hl 0 rfl) ?_
  refine va_get (D := (dC, dI)) (ci := 11) (v := .ref a6) (C := RX11) (T := TX11) (N := 15) hx hb hts iX11 hown hK hP 0 rfl rfl 0 (by decide) (hts _ k6) (fun _ h9 => h9) rfl dX11_feed_38 ?_
  refine lv_aload_n hx hb dX11_feed_41 rfl (lv_at hl 0 rfl) ?_
  refine va_get (D := (dC, dI)) (ci := 11) (v := .int 0) (C := RX11) (T := TX11) (N := 15) hx hb hts iX11 hown hK hP 0 rfl rfl 9 (by decide) (hts _ k180) (fun _ h9 => h9) rfl dX11_feed_42 ?_
  refine lv_bipush (v := 8) hx hb dX11_feed_45 (by decide) ?_
  refine lv_iadd hx hb dX11_feed_47 ?_
  refine lv_is 8 (by decide) ?_
  refine lv_iload_n hx hb dX11_feed_48 rfl (lv_at hl 3 rfl) ?_
  refine xS_v (n := 3) (As := [.ref a6, .int 8, .int p3]) (rest := []) (wc := [(a6, .inl (g15, 65000, .inl f2))]) (wr := [(a0, .inr (11, [.ref a6, .ref a7, .ref a8, .ref a9, .ref a10, .ref a11, .ref a12, .ref a13, .ref a14, .int 0, .int 0, .int 0, .int (-1), .int 0, .int (-1)]))]) (tc := [(g15, .byte)]) ⟨hx, hb, hml, hown, hts⟩ (c_X11_setFour_3 l dC dI a6 p3 g15 f2 H.size) ⟨k182, k183, k184, k185⟩ (by decide +kernel) rfl ⟨Nat.le_of_ble_eq_true rfl, Nat.le_of_ble_eq_true rfl⟩ ⟨Nat.le_of_ble_eq_true rfl, Nat.le_of_ble_eq_true rfl⟩ hK hP hD hS hA hN [1] [0] [0] rfl rfl (by decide) (by decide) rfl hl.1 rfl (Nat.le_of_ble_eq_true rfl) dX11_feed_49 (fun f3 H locs hw hK hP hD hS => ?_)
  have hK : va_K (dC, dI) vwCl [(g15, .byte), (g15, .byte)] s := hK
  have hP : va_P (dC, dI) vwCl [(a0, .inr (11, [.ref a6, .ref a7, .ref a8, .ref a9, .ref a10, .ref a11, .ref a12, .ref a13, .ref a14, .int 0, .int 0, .int 0, .int (-1), .int 0, .int (-1)])), (a6, .inl (g15, 65000, .inl f3))] H := hP
  have hD : va_D A [(a0, .inr (11, [.ref a6, .ref a7, .ref a8, .ref a9, .ref a10, .ref a11, .ref a12, .ref a13, .ref a14, .int 0, .int 0, .int 0, .int (-1), .int 0, .int (-1)])), (a6, .inl (g15, 65000, .inl f3))] := hD
  refine W.widen (k := 0) (n := 0) (Nat.le_of_ble_eq_true rfl) (Nat.le_of_ble_eq_true rfl) ?_
  have hK := hK.sub (tys' := [(g15, .byte)]) [0] rfl
  refine lv_aload_n hx hb dX11_feed_52 rfl (lv_at hl 0 rfl) ?_
  refine va_get (D := (dC, dI)) (ci := 11) (v := .ref a6) (C := RX11) (T := TX11) (N := 15) hx hb hts iX11 hown hK hP 0 rfl rfl 0 (by decide) (hts _ k6) (fun _ h9 => h9) rfl dX11_feed_53 ?_
  refine lv_aload_n hx hb dX11_feed_56 rfl (lv_at hl 0 rfl) ?_
  refine va_get (D := (dC, dI)) (ci := 11) (v := .int 0) (C := RX11) (T := TX11) (N := 15) hx hb hts iX11 hown hK hP 0 rfl rfl 9 (by decide) (hts _ k180) (fun _ h9 => h9) rfl dX11_feed_57 ?_
  refine lv_bipush (v := 12) hx hb dX11_feed_60 (by decide) ?_
  refine lv_iadd hx hb dX11_feed_62 ?_
  refine lv_is 12 (by decide) ?_
  refine lv_iload hx hb dX11_feed_63 (lv_at hl 4 rfl) ?_
  refine xS_v (n := 3) (As := [.ref a6, .int 12, .int p4]) (rest := []) (wc := [(a6, .inl (g15, 65000, .inl f3))]) (wr := [(a0, .inr (11, [.ref a6, .ref a7, .ref a8, .ref a9, .ref a10, .ref a11, .ref a12, .ref a13, .ref a14, .int 0, .int 0, .int 0, .int (-1), .int 0, .int (-1)]))]) (tc := [(g15, .byte)]) ⟨hx, hb, hml, hown, hts⟩ (c_X11_setFour_4 l dC dI a6 p4 g15 f3 H.size) ⟨k182, k183, k184, k185⟩ (by decide +kernel) rfl ⟨Nat.le_of_ble_eq_true rfl, Nat.le_of_ble_eq_true rfl⟩ ⟨Nat.le_of_ble_eq_true rfl, Nat.le_of_ble_eq_true rfl⟩ hK hP hD hS hA hN [1] [0] [0] rfl rfl (by decide) (by decide) rfl hl.1 rfl (Nat.le_of_ble_eq_true rfl) dX11_feed_65 (fun f4 H locs hw hK hP hD hS => ?_)
  have hK : va_K (dC, dI) vwCl [(g15, .byte), (g15, .byte)] s := hK
  have hP : va_P (dC, dI) vwCl [(a0, .inr (11, [.ref a6, .ref a7, .ref a8, .ref a9, .ref a10, .ref a11, .ref a12, .ref a13, .ref a14, .int 0, .int 0, .int 0, .int (-1), .int 0, .int (-1)])), (a6, .inl (g15, 65000, .inl f4))] H := hP
  have hD : va_D A [(a0, .inr (11, [.ref a6, .ref a7, .ref a8, .ref a9, .ref a10, .ref a11, .ref a12, .ref a13, .ref a14, .int 0, .int 0, .int 0, .int (-1), .int 0, .int (-1)])), (a6, .inl (g15, 65000, .inl f4))] := hD
  refine W.widen (k := 0) (n := 0) (Nat.le_of_ble_eq_true rfl) (Nat.le_of_ble_eq_true rfl) ?_
  have hK := hK.sub (tys' := [(g15, .byte)]) [0] rfl
  refine lv_aload_n hx hb dX11_feed_68 rfl (lv_at hl 0 rfl) ?_
  refine va_get (D := (dC, dI)) (ci := 11) (v := .ref a6) (C := RX11) (T := TX11) (N := 15) hx hb hts iX11 hown hK hP 0 rfl rfl 0 (by decide) (hts _ k6) (fun _ h9 => h9) rfl dX11_feed_69 ?_
  refine lv_aload_n hx hb dX11_feed_72 rfl (lv_at hl 0 rfl) ?_
  refine va_get (D := (dC, dI)) (ci := 11) (v := .int 0) (C := RX11) (T := TX11) (N := 15) hx hb hts iX11 hown hK hP 0 rfl rfl 9 (by decide) (hts _ k180) (fun _ h9 => h9) rfl dX11_feed_73 ?_
  refine lv_bipush (v := 16) hx hb dX11_feed_76 (by decide) ?_
  refine lv_iadd hx hb dX11_feed_78 ?_
  refine lv_is 16 (by decide) ?_
  refine lv_iload hx hb dX11_feed_79 (lv_at hl 5 rfl) ?_
  refine xS_v (n := 3) (As := [.ref a6, .int 16, .int p5]) (rest := []) (wc := [(a6, .inl (g15, 65000, .inl f4))]) (wr := [(a0, .inr (11, [.ref a6, .ref a7, .ref a8, .ref a9, .ref a10, .ref a11, .ref a12, .ref a13, .ref a14, .int 0, .int 0, .int 0, .int (-1), .int 0, .int (-1)]))]) (tc := [(g15, .byte)]) ⟨hx, hb, hml, hown, hts⟩ (c_X11_setFour_5 l dC dI a6 p5 g15 f4 H.size) ⟨k182, k183, k184, k185⟩ (by decide +kernel) rfl ⟨Nat.le_of_ble_eq_true rfl, Nat.le_of_ble_eq_true rfl⟩ ⟨Nat.le_of_ble_eq_true rfl, Nat.le_of_ble_eq_true rfl⟩ hK hP hD hS hA hN [1] [0] [0] rfl rfl (by decide) (by decide) rfl hl.1 rfl (Nat.le_of_ble_eq_true rfl) dX11_feed_81 (fun f5 H locs hw hK hP hD hS => ?_)
  have hK : va_K (dC, dI) vwCl [(g15, .byte), (g15, .byte)] s := hK
  have hP : va_P (dC, dI) vwCl [(a0, .inr (11, [.ref a6, .ref a7, .ref a8, .ref a9, .ref a10, .ref a11, .ref a12, .ref a13, .ref a14, .int 0, .int 0, .int 0, .int (-1), .int 0, .int (-1)])), (a6, .inl (g15, 65000, .inl f5))] H := hP
  have hD : va_D A [(a0, .inr (11, [.ref a6, .ref a7, .ref a8, .ref a9, .ref a10, .ref a11, .ref a12, .ref a13, .ref a14, .int 0, .int 0, .int 0, .int (-1), .int 0, .int (-1)])), (a6, .inl (g15, 65000, .inl f5))] := hD
  refine W.widen (k := 0) (n := 0) (Nat.le_of_ble_eq_true rfl) (Nat.le_of_ble_eq_true rfl) ?_
  have hK := hK.sub (tys' := [(g15, .byte)]) [0] rfl
  refine lv_aload_n hx hb dX11_feed_84 rfl (lv_at hl 0 rfl) ?_
  refine lv_dup hx hb dX11_feed_85 rfl ?_
  refine va_get (D := (dC, dI)) (ci := 11) (v := .int 0) (C := RX11) (T := TX11) (N := 15) hx hb hts iX11 hown hK hP 0 rfl rfl 9 (by decide) (hts _ k180) (fun _ h9 => h9) rfl dX11_feed_86 ?_
  refine lv_bipush (v := 20) hx hb dX11_feed_89 (by decide) ?_
  refine lv_iadd hx hb dX11_feed_91 ?_
  refine lv_is 20 (by decide) ?_
  refine va_put (D := (dC, dI)) (ci := 11) (v := .int 20) (ty := .int) (C := RX11) (T := TX11) (N := 15) hx hb hts iX11 tyX11 tyX11_ok nmX11 hown hK hP hD hS 0 rfl rfl 9 (by decide) (hts _ k180) (fun _ h9 => h9) rfl (by decide +kernel) rfl rfl (Nat.le_of_ble_eq_true rfl) dX11_feed_92 (fun H locs hP hD hS => ?_)
  have hP : va_P (dC, dI) vwCl [(a0, .inr (11, [.ref a6, .ref a7, .ref a8, .ref a9, .ref a10, .ref a11, .ref a12, .ref a13, .ref a14, .int 20, .int 0, .int 0, .int (-1), .int 0, .int (-1)])), (a6, .inl (g15, 65000, .inl f5))] H := hP
  have hD : va_D A [(a0, .inr (11, [.ref a6, .ref a7, .ref a8, .ref a9, .ref a10, .ref a11, .ref a12, .ref a13, .ref a14, .int 20, .int 0, .int 0, .int (-1), .int 0, .int (-1)])), (a6, .inl (g15, 65000, .inl f5))] := hD
  refine lv_aload_n hx hb dX11_feed_95 rfl (lv_at hl 0 rfl) ?_
  refine va_get (D := (dC, dI)) (ci := 11) (v := .int 20) (C := RX11) (T := TX11) (N := 15) hx hb hts iX11 hown hK hP 0 rfl rfl 9 (by decide) (hts _ k180) (fun _ h9 => h9) rfl dX11_feed_96 ?_
  have hP9 := hP.sub (ws' := []) [] rfl
  have hD9 := hD.sub (ws' := []) [] (by decide) rfl
  have hK9 := hK.sub (tys' := []) [] rfl
  refine W.widen (k := 0) (n := 0) (Nat.le_of_ble_eq_true rfl) (Nat.le_of_ble_eq_true rfl) ?_
  exact W.iret (v := 20) hx hb hr (fun t ht hW => ⟨⟨20, (), rfl, rfl, by rw [ht]; exact hP9, va_K.moved hW.alike hK9, hD9⟩, hS.F ht⟩) hS.2.2 dX11_feed_99
set_option maxHeartbeats 4000000 in
set_option maxRecDepth 100000 in
theorem c_X11_end_1 (l : Launch) (dC : Nat → ClassId) (dI : Nat → Nat → Nat) (a0 : Nat) (p1 : Int32) (a2 : Nat) (a3 : Nat) (a4 : Nat) (a5 : Nat) (a6 : Nat) (a7 : Nat) (a8 : Nat) (a9 : Nat) (a10 : Nat) (sz : Nat) : Met l yX11_end (Cond.code yX11_end cX11_end 2 (some .boolean) :: wB) { frames := 0, cells := 0, slots := 0, locals := 0 } (va_Pc [.ref a0, .int p1] (pX (dC, dI) sz [(a0, .inr (11, [.ref a2, .ref a3, .ref a4, .ref a5, .ref a6, .ref a7, .ref a8, .ref a9, .ref a10, .int 0, .int 0, .int 0, .int (-1), .int 0, .int (-1)]))] [])) (va_Qi (fun (r : Int32) (z : Unit) => r = (fEnd p1)) (fun z t => qX (dC, dI) [] [] (va_A [(a0, .inr (11, [.ref a2, .ref a3, .ref a4, .ref a5, .ref a6, .ref a7, .ref a8, .ref a9, .ref a10, .int 0, .int 0, .int 0, .int (-1), .int 0, .int (-1)]))] sz) t) (va_A [(a0, .inr (11, [.ref a2, .ref a3, .ref a4, .ref a5, .ref a6, .ref a7, .ref a8, .ref a9, .ref a10, .int 0, .int 0, .int 0, .int (-1), .int 0, .int (-1)]))] sz)) 0 0 (va_A [(a0, .inr (11, [.ref a2, .ref a3, .ref a4, .ref a5, .ref a6, .ref a7, .ref a8, .ref a9, .ref a10, .int 0, .int 0, .int 0, .int (-1), .int 0, .int (-1)]))] sz) := by
  refine Met.ofW (cc := cX11_end) (maxL := 2) (ret := (some .boolean)) (by decide) rfl ?_
  intro p e s m args below meth c s₁ B hml hv
  obtain ⟨rfl, hsz, hP, hK, hD0, hN⟩ := hv
  have hx := B.exec
  have hb := B.bytes
  have hr := B.returns
  have hts : ∀ w ∈ wB, w.before _ s = true := fun w h => atoms_spec (ws := Cond.code yX11_end cX11_end 2 (some .boolean) :: wB) B.pre w (List.mem_cons_of_mem _ h)
  have hown : s.vm.findClass RX11 = some m.cls := findClass_of_methodNamed B.named
  have hlocks := B.notSynchronized
  subst hsz
  have hD := hD0.self (sz := s.heap.size)
  generalize hAe : va_A [(a0, .inr (11, [.ref a2, .ref a3, .ref a4, .ref a5, .ref a6, .ref a7, .ref a8, .ref a9, .ref a10, .int 0, .int 0, .int 0, .int (-1), .int 0, .int (-1)]))] s.heap.size = A at hD ⊢
  have hA : ∀ q : Nat, s.heap.size ≤ q → A q := fun q h => by rw [← hAe]; exact Or.inr h
  have hS : va_S A s.heap s.heap [] := va_S.rf
  have hP : va_P (dC, dI) vwCl [(a0, .inr (11, [.ref a2, .ref a3, .ref a4, .ref a5, .ref a6, .ref a7, .ref a8, .ref a9, .ref a10, .int 0, .int 0, .int 0, .int (-1), .int 0, .int (-1)]))] s.heap := hP
  have hl := lv_entry ([.ref a0, .int p1]) (n := 2) (Nat.le_of_ble_eq_true rfl)
  rw [lg_entry_eq]
  generalize (lg_sl ([.ref a0, .int p1]) ++ List.replicate (2 - (lg_sl ([.ref a0, .int p1])).length) Slot.unset).toArray = ls at hl ⊢
  have hl : lv_has ls 2 [(0, .ref a0), (1, .int p1)] := hl
  refine lv_iload_n hx hb dX11_end_0 rfl (lv_at hl 1 rfl) ?_
  refine lv_if_lt (tgt := 12) hx hb dX11_end_1 (by decide) (fun h1 => ?_) (fun h1 => ?_)
  · refine lv_iconst (v := 0) hx hb dX11_end_12 (by decide) ?_
    have hP9 := hP.sub (ws' := []) [] rfl
    have hD9 := hD.sub (ws' := []) [] (by decide) rfl
    have hK9 := hK.sub (tys' := []) [] rfl
    refine W.widen (k := 0) (n := 0) (Nat.le_of_ble_eq_true rfl) (Nat.le_of_ble_eq_true rfl) ?_
    exact W.zret (v := 0) hx hb hr rfl (fun t ht hW => ⟨⟨0, (), rfl, (by revert h1; simp only [fEnd, Int32.lt_iff_toInt_lt, Int32.le_iff_toInt_le, ← Int32.toInt_inj, z0, z1, z2, z3, z10, z11, z12, z13, z14, z20000, zm1, z50]; intros; first | rfl | decide | (split <;> first | rfl | (exfalso; omega))), by rw [ht]; exact hP9, va_K.moved hW.alike hK9, hD9⟩, hS.F ht⟩) hS.2.2 dX11_end_13
  · refine lv_iload_n hx hb dX11_end_4 rfl (lv_at hl 1 rfl) ?_
    refine lv_aload_n hx hb dX11_end_5 rfl (lv_at hl 0 rfl) ?_
    refine va_get (D := (dC, dI)) (ci := 11) (v := .int 0) (C := RX11) (T := TX11) (N := 15) hx hb hts iX11 hown hK hP 0 rfl rfl 9 (by decide) (hts _ k180) (fun _ h9 => h9) rfl dX11_end_6 ?_
    refine lv_icmp_le (tgt := 14) hx hb dX11_end_9 (by decide) (fun h2 => ?_) (fun h2 => ?_)
    · refine lv_aload_n hx hb dX11_end_14 rfl (lv_at hl 0 rfl) ?_
      refine lv_iload_n hx hb dX11_end_15 rfl (lv_at hl 1 rfl) ?_
      refine va_put (D := (dC, dI)) (ci := 11) (v := .int p1) (ty := .int) (C := RX11) (T := TX11) (N := 15) hx hb hts iX11 tyX11 tyX11_ok nmX11 hown hK hP hD hS 0 rfl rfl 9 (by decide) (hts _ k180) (fun _ h9 => h9) rfl (by decide +kernel) rfl rfl (Nat.le_of_ble_eq_true rfl) dX11_end_16 (fun H locs hP hD hS => ?_)
      have hP : va_P (dC, dI) vwCl [(a0, .inr (11, [.ref a2, .ref a3, .ref a4, .ref a5, .ref a6, .ref a7, .ref a8, .ref a9, .ref a10, .int p1, .int 0, .int 0, .int (-1), .int 0, .int (-1)]))] H := hP
      have hD : va_D A [(a0, .inr (11, [.ref a2, .ref a3, .ref a4, .ref a5, .ref a6, .ref a7, .ref a8, .ref a9, .ref a10, .int p1, .int 0, .int 0, .int (-1), .int 0, .int (-1)]))] := hD
      refine lv_iconst (v := 1) hx hb dX11_end_19 (by decide) ?_
      have hP9 := hP.sub (ws' := []) [] rfl
      have hD9 := hD.sub (ws' := []) [] (by decide) rfl
      have hK9 := hK.sub (tys' := []) [] rfl
      refine W.widen (k := 0) (n := 0) (Nat.le_of_ble_eq_true rfl) (Nat.le_of_ble_eq_true rfl) ?_
      exact W.zret (v := 1) hx hb hr rfl (fun t ht hW => ⟨⟨1, (), rfl, (by revert h1 h2; simp only [fEnd, Int32.lt_iff_toInt_lt, Int32.le_iff_toInt_le, ← Int32.toInt_inj, z0, z1, z2, z3, z10, z11, z12, z13, z14, z20000, zm1, z50]; intros; first | rfl | decide | (split <;> first | rfl | (exfalso; omega))), by rw [ht]; exact hP9, va_K.moved hW.alike hK9, hD9⟩, hS.F ht⟩) hS.2.2 dX11_end_20
    · refine lv_iconst (v := 0) hx hb dX11_end_12 (by decide) ?_
      have hP9 := hP.sub (ws' := []) [] rfl
      have hD9 := hD.sub (ws' := []) [] (by decide) rfl
      have hK9 := hK.sub (tys' := []) [] rfl
      refine W.widen (k := 0) (n := 0) (Nat.le_of_ble_eq_true rfl) (Nat.le_of_ble_eq_true rfl) ?_
      exact W.zret (v := 0) hx hb hr rfl (fun t ht hW => ⟨⟨0, (), rfl, (by revert h1 h2; simp only [fEnd, Int32.lt_iff_toInt_lt, Int32.le_iff_toInt_le, ← Int32.toInt_inj, z0, z1, z2, z3, z10, z11, z12, z13, z14, z20000, zm1, z50]; intros; first | rfl | decide | (split <;> first | rfl | (exfalso; omega))), by rw [ht]; exact hP9, va_K.moved hW.alike hK9, hD9⟩, hS.F ht⟩) hS.2.2 dX11_end_13
set_option maxHeartbeats 4000000 in
set_option maxRecDepth 100000 in
theorem c_X4_setText_1 (l : Launch) (dC : Nat → ClassId) (dI : Nat → Nat → Nat) (a0 : Nat) (a1 : Nat) (g2 : ClassId) (a3 : Nat) (a4 : Nat) (a5 : Nat) (a6 : Nat) (a7 : Nat) (a8 : Nat) (a9 : Nat) (a10 : Nat) (a11 : Nat) (a12 : Nat) (a13 : Nat) (a14 : Nat) (a15 : Nat) (a16 : Nat) (g17 : ClassId) (sz : Nat) : Met l yX4_setText (Cond.code yX4_setText cX4_setText 4 none :: wB) { frames := 1, cells := 0, slots := 0, locals := 200 } (va_Pc [.ref a0, .ref a1, .int 0, .int 0] (pX (dC, dI) sz [(a1, .inl (g2, 65000, .inl (fun _ => 0))), (a0, .inr (4, [.ref a3, .ref a4, .ref a5, .ref a6, .ref a7, .ref a8, .ref a9, .ref a10, .ref a11, .ref a12, .ref a13, .ref a14, .ref a15, .ref a16, .int 0, .int 0, .int 0, .int 0, .int 0])), (a3, .inl (g17, 2000, .inl (fun _ => 0)))] [(g2, .byte), (g17, .byte)])) (va_Qv (fun _ : (Nat → Int32) => True) (fun z t => qX (dC, dI) [(a1, .inl (g2, 65000, .inl (fun _ => 0))), (a0, .inr (4, [.ref a3, .ref a4, .ref a5, .ref a6, .ref a7, .ref a8, .ref a9, .ref a10, .ref a11, .ref a12, .ref a13, .ref a14, .ref a15, .ref a16, .int 0, .int 0, .int 0, .int 0, .int 0])), (a3, .inl (g17, 2000, .inl z))] [(g2, .byte), (g17, .byte)] (va_A [(a1, .inl (g2, 65000, .inl (fun _ => 0))), (a0, .inr (4, [.ref a3, .ref a4, .ref a5, .ref a6, .ref a7, .ref a8, .ref a9, .ref a10, .ref a11, .ref a12, .ref a13, .ref a14, .ref a15, .ref a16, .int 0, .int 0, .int 0, .int 0, .int 0])), (a3, .inl (g17, 2000, .inl (fun _ => 0)))] sz) t) (va_A [(a1, .inl (g2, 65000, .inl (fun _ => 0))), (a0, .inr (4, [.ref a3, .ref a4, .ref a5, .ref a6, .ref a7, .ref a8, .ref a9, .ref a10, .ref a11, .ref a12, .ref a13, .ref a14, .ref a15, .ref a16, .int 0, .int 0, .int 0, .int 0, .int 0])), (a3, .inl (g17, 2000, .inl (fun _ => 0)))] sz)) 0 0 (va_A [(a1, .inl (g2, 65000, .inl (fun _ => 0))), (a0, .inr (4, [.ref a3, .ref a4, .ref a5, .ref a6, .ref a7, .ref a8, .ref a9, .ref a10, .ref a11, .ref a12, .ref a13, .ref a14, .ref a15, .ref a16, .int 0, .int 0, .int 0, .int 0, .int 0])), (a3, .inl (g17, 2000, .inl (fun _ => 0)))] sz) := by
  refine Met.ofW (cc := cX4_setText) (maxL := 4) (ret := none) (by decide) rfl ?_
  intro p e s m args below meth c s₁ B hml hv
  obtain ⟨rfl, hsz, hP, hK, hD0, hN⟩ := hv
  have hx := B.exec
  have hb := B.bytes
  have hr := B.returns
  have hts : ∀ w ∈ wB, w.before _ s = true := fun w h => atoms_spec (ws := Cond.code yX4_setText cX4_setText 4 none :: wB) B.pre w (List.mem_cons_of_mem _ h)
  have hown : s.vm.findClass RX4 = some m.cls := findClass_of_methodNamed B.named
  have hlocks := B.notSynchronized
  subst hsz
  have hD := hD0.self (sz := s.heap.size)
  generalize hAe : va_A [(a1, .inl (g2, 65000, .inl (fun _ => 0))), (a0, .inr (4, [.ref a3, .ref a4, .ref a5, .ref a6, .ref a7, .ref a8, .ref a9, .ref a10, .ref a11, .ref a12, .ref a13, .ref a14, .ref a15, .ref a16, .int 0, .int 0, .int 0, .int 0, .int 0])), (a3, .inl (g17, 2000, .inl (fun _ => 0)))] s.heap.size = A at hD ⊢
  have hA : ∀ q : Nat, s.heap.size ≤ q → A q := fun q h => by rw [← hAe]; exact Or.inr h
  have hS : va_S A s.heap s.heap [] := va_S.rf
  have hP : va_P (dC, dI) vwCl [(a1, .inl (g2, 65000, .inl (fun _ => 0))), (a0, .inr (4, [.ref a3, .ref a4, .ref a5, .ref a6, .ref a7, .ref a8, .ref a9, .ref a10, .ref a11, .ref a12, .ref a13, .ref a14, .ref a15, .ref a16, .int 0, .int 0, .int 0, .int 0, .int 0])), (a3, .inl (g17, 2000, .inl (fun _ => 0)))] s.heap := hP
  have hl := lv_entry ([.ref a0, .ref a1, .int 0, .int 0]) (n := 4) (Nat.le_of_ble_eq_true rfl)
  rw [lg_entry_eq]
  generalize (lg_sl ([.ref a0, .ref a1, .int 0, .int 0]) ++ List.replicate (4 - (lg_sl ([.ref a0, .ref a1, .int 0, .int 0])).length) Slot.unset).toArray = ls at hl ⊢
  have hl : lv_has ls 4 [(0, .ref a0), (1, .ref a1), (2, .int 0), (3, .int 0)] := hl
  refine lv_aload_n hx hb dX4_setText_0 rfl (lv_at hl 0 rfl) ?_
  refine lv_iload_n hx hb dX4_setText_1 rfl (lv_at hl 3 rfl) ?_
  refine va_put (D := (dC, dI)) (ci := 4) (v := .int 0) (ty := .int) (C := RX4) (T := TX4) (N := 19) hx hb hts iX4 tyX4 tyX4_ok nmX4 hown hK hP hD hS 1 rfl rfl 14 (by decide) (hts _ k187) (fun _ h9 => h9) rfl (by decide +kernel) rfl rfl (Nat.le_of_ble_eq_true rfl) dX4_setText_2 (fun H locs hP hD hS => ?_)
  have hP : va_P (dC, dI) vwCl [(a1, .inl (g2, 65000, .inl (fun _ => 0))), (a0, .inr (4, [.ref a3, .ref a4, .ref a5, .ref a6, .ref a7, .ref a8, .ref a9, .ref a10, .ref a11, .ref a12, .ref a13, .ref a14, .ref a15, .ref a16, .int 0, .int 0, .int 0, .int 0, .int 0])), (a3, .inl (g17, 2000, .inl (fun _ => 0)))] H := hP
  have hD : va_D A [(a1, .inl (g2, 65000, .inl (fun _ => 0))), (a0, .inr (4, [.ref a3, .ref a4, .ref a5, .ref a6, .ref a7, .ref a8, .ref a9, .ref a10, .ref a11, .ref a12, .ref a13, .ref a14, .ref a15, .ref a16, .int 0, .int 0, .int 0, .int 0, .int 0])), (a3, .inl (g17, 2000, .inl (fun _ => 0)))] := hD
  refine lv_aload_n hx hb dX4_setText_5 rfl (lv_at hl 1 rfl) ?_
  refine lv_iload_n hx hb dX4_setText_6 rfl (lv_at hl 2 rfl) ?_
  refine lv_aload_n hx hb dX4_setText_7 rfl (lv_at hl 0 rfl) ?_
  refine va_get (D := (dC, dI)) (ci := 4) (v := .ref a3) (C := RX4) (T := TX4) (N := 19) hx hb hts iX4 hown hK hP 1 rfl rfl 0 (by decide) (hts _ k105) (fun _ h9 => h9) rfl dX4_setText_8 ?_
  refine lv_iconst (v := 0) hx hb dX4_setText_11 (by decide) ?_
  refine lv_iload_n hx hb dX4_setText_12 rfl (lv_at hl 3 rfl) ?_
  refine lv_sipush (v := 2000) hx hb dX4_setText_13 (by decide) ?_
  refine va_mmin hx hb (hml.trans hl.1.symm) hown (hts _ k188) (hts _ k189) (hts _ k190) (hts _ k191) (Nat.le_of_ble_eq_true rfl) (Nat.le_of_ble_eq_true rfl) (Nat.le_of_ble_eq_true rfl) (Nat.le_of_ble_eq_true rfl) dX4_setText_16 ?_
  refine lv_is 0 (by decide) ?_
  refine cp_any hx hb (hml.trans hl.1.symm) hown (hts _ k192) (hts _ k193) (hts _ k194) (hts _ k195) hK hP hD hS 0 2 0 1 rfl rfl rfl rfl rfl (by decide) (by decide) (by decide) (by decide) (by decide) (fun i h => absurd h (Nat.not_lt_zero i)) (Nat.le_of_ble_eq_true rfl) (by decide +kernel) dX4_setText_19 (fun f1 H locs hP hD hS => ?_)
  have hP : va_P (dC, dI) vwCl [(a1, .inl (g2, 65000, .inl (fun _ => 0))), (a0, .inr (4, [.ref a3, .ref a4, .ref a5, .ref a6, .ref a7, .ref a8, .ref a9, .ref a10, .ref a11, .ref a12, .ref a13, .ref a14, .ref a15, .ref a16, .int 0, .int 0, .int 0, .int 0, .int 0])), (a3, .inl (g17, 2000, .inl f1))] H := hP
  have hD : va_D A [(a1, .inl (g2, 65000, .inl (fun _ => 0))), (a0, .inr (4, [.ref a3, .ref a4, .ref a5, .ref a6, .ref a7, .ref a8, .ref a9, .ref a10, .ref a11, .ref a12, .ref a13, .ref a14, .ref a15, .ref a16, .int 0, .int 0, .int 0, .int 0, .int 0])), (a3, .inl (g17, 2000, .inl f1))] := hD
  have hP9 := hP.sub (ws' := [(a1, .inl (g2, 65000, .inl (fun _ => 0))), (a0, .inr (4, [.ref a3, .ref a4, .ref a5, .ref a6, .ref a7, .ref a8, .ref a9, .ref a10, .ref a11, .ref a12, .ref a13, .ref a14, .ref a15, .ref a16, .int 0, .int 0, .int 0, .int 0, .int 0])), (a3, .inl (g17, 2000, .inl f1))]) [0, 1, 2] rfl
  have hD9 := hD.sub (ws' := [(a1, .inl (g2, 65000, .inl (fun _ => 0))), (a0, .inr (4, [.ref a3, .ref a4, .ref a5, .ref a6, .ref a7, .ref a8, .ref a9, .ref a10, .ref a11, .ref a12, .ref a13, .ref a14, .ref a15, .ref a16, .int 0, .int 0, .int 0, .int 0, .int 0])), (a3, .inl (g17, 2000, .inl f1))]) [0, 1, 2] (by decide) rfl
  have hK9 := hK.sub (tys' := [(g2, .byte), (g17, .byte)]) [0, 1] rfl
  refine W.widen (k := 0) (n := 0) (Nat.le_of_ble_eq_true rfl) (Nat.le_of_ble_eq_true rfl) ?_
  exact W.vret hx hb hr (fun t ht hW => ⟨⟨(f1), rfl, trivial, by rw [ht]; exact hP9, va_K.moved hW.alike hK9, hD9⟩, hS.F ht⟩) hS.2.2 dX4_setText_22
set_option maxHeartbeats 4000000 in
set_option maxRecDepth 100000 in
theorem c_J7_fill_53178_1 (l : Launch) (dC : Nat → ClassId) (dI : Nat → Nat → Nat) (a0 : Nat) (g1 : ClassId) (sz : Nat) : Met l yJ7_fill_53178 (Cond.code yJ7_fill_53178 cJ7_fill_53178 4 none :: wB) { frames := 0, cells := 0, slots := 0, locals := 0 } (va_Pc [.ref a0, .int 2147483647] (pX (dC, dI) sz [(a0, .inl (g1, 6, .inl (fun _ => 0)))] [(g1, .int)])) (va_Qv (fun _ : (Nat → Int32) => True) (fun z t => qX (dC, dI) [(a0, .inl (g1, 6, .inl z))] [(g1, .int)] (va_A [(a0, .inl (g1, 6, .inl (fun _ => 0)))] sz) t) (va_A [(a0, .inl (g1, 6, .inl (fun _ => 0)))] sz)) 0 0 (va_A [(a0, .inl (g1, 6, .inl (fun _ => 0)))] sz) := by
  refine Met.ofW (cc := cJ7_fill_53178) (maxL := 4) (ret := none) (by decide) rfl ?_
  intro p e s m args below meth c s₁ B hml hv
  obtain ⟨rfl, hsz, hP, hK, hD0, hN⟩ := hv
  have hx := B.exec
  have hb := B.bytes
  have hr := B.returns
  have hts : ∀ w ∈ wB, w.before _ s = true := fun w h => atoms_spec (ws := Cond.code yJ7_fill_53178 cJ7_fill_53178 4 none :: wB) B.pre w (List.mem_cons_of_mem _ h)
  have hown : s.vm.findClass "java/util/Arrays" = some m.cls := findClass_of_methodNamed B.named
  have hlocks := B.notSynchronized
  subst hsz
  have hD := hD0.self (sz := s.heap.size)
  generalize hAe : va_A [(a0, .inl (g1, 6, .inl (fun _ => 0)))] s.heap.size = A at hD ⊢
  have hA : ∀ q : Nat, s.heap.size ≤ q → A q := fun q h => by rw [← hAe]; exact Or.inr h
  have hS : va_S A s.heap s.heap [] := va_S.rf
  have hP : va_P (dC, dI) vwCl [(a0, .inl (g1, 6, .inl (fun _ => 0)))] s.heap := hP
  have hl := lv_entry ([.ref a0, .int 2147483647]) (n := 4) (Nat.le_of_ble_eq_true rfl)
  rw [lg_entry_eq]
  generalize (lg_sl ([.ref a0, .int 2147483647]) ++ List.replicate (4 - (lg_sl ([.ref a0, .int 2147483647])).length) Slot.unset).toArray = ls at hl ⊢
  have hl : lv_has ls 4 [(0, .ref a0), (1, .int 2147483647)] := hl
  refine lv_iconst (v := 0) hx hb dJ7_fill_53178_0 (by decide) ?_
  refine lv_istore_n (lv' := [(2, .int 0), (0, .ref a0), (1, .int 2147483647)]) hx hb dJ7_fill_53178_1 rfl hl (by decide) rfl (fun ls hl => ?_)
  refine lv_aload_n hx hb dJ7_fill_53178_2 rfl (lv_at hl 1 rfl) ?_
  refine va_alen (v := 6) hx hb hK hP 0 0 rfl rfl (show Int32.ofNat 6 = 6 from by decide) dJ7_fill_53178_3 ?_
  refine lv_istore_n (lv' := [(3, .int 6), (2, .int 0), (0, .ref a0), (1, .int 2147483647)]) hx hb dJ7_fill_53178_4 rfl hl (by decide) rfl (fun ls hl => ?_)
  refine lv_iload_n hx hb dJ7_fill_53178_5 rfl (lv_at hl 1 rfl) ?_
  refine lv_iload_n hx hb dJ7_fill_53178_6 rfl (lv_at hl 0 rfl) ?_
  refine lv_icmp_ge (tgt := 20) hx hb dJ7_fill_53178_7 (by decide) (fun c9 => absurd c9 (by decide)) (fun _ => ?_)
  refine lv_aload_n hx hb dJ7_fill_53178_10 rfl (lv_at hl 2 rfl) ?_
  refine lv_iload_n hx hb dJ7_fill_53178_11 rfl (lv_at hl 1 rfl) ?_
  refine lv_iload_n hx hb dJ7_fill_53178_12 rfl (lv_at hl 3 rfl) ?_
  refine ia_any hx hb hK hP hD hS 0 0 rfl rfl (inI (by decide)) dJ7_fill_53178_13 (fun f1 H locs hP hD hS => ?_)
  have hP : va_P (dC, dI) vwCl [(a0, .inl (g1, 6, .inl f1))] H := hP
  have hD : va_D A [(a0, .inl (g1, 6, .inl f1))] := hD
  refine lv_iinc (v := 1) (lv' := [(2, .int 1), (3, .int 6), (0, .ref a0), (1, .int 2147483647)]) hx hb dJ7_fill_53178_14 hl (k := 1) rfl (by decide) (by decide) rfl (fun ls hl => ?_)
  refine lv_goto (tgt := 5) hx hb dJ7_fill_53178_17 (by decide) ?_
  refine lv_iload_n hx hb dJ7_fill_53178_5 rfl (lv_at hl 0 rfl) ?_
  refine lv_iload_n hx hb dJ7_fill_53178_6 rfl (lv_at hl 1 rfl) ?_
  refine lv_icmp_ge (tgt := 20) hx hb dJ7_fill_53178_7 (by decide) (fun c9 => absurd c9 (by decide)) (fun _ => ?_)
  refine lv_aload_n hx hb dJ7_fill_53178_10 rfl (lv_at hl 2 rfl) ?_
  refine lv_iload_n hx hb dJ7_fill_53178_11 rfl (lv_at hl 0 rfl) ?_
  refine lv_iload_n hx hb dJ7_fill_53178_12 rfl (lv_at hl 3 rfl) ?_
  refine ia_any hx hb hK hP hD hS 0 0 rfl rfl (inI (by decide)) dJ7_fill_53178_13 (fun f2 H locs hP hD hS => ?_)
  have hP : va_P (dC, dI) vwCl [(a0, .inl (g1, 6, .inl f2))] H := hP
  have hD : va_D A [(a0, .inl (g1, 6, .inl f2))] := hD
  refine lv_iinc (v := 2) (lv' := [(2, .int 2), (3, .int 6), (0, .ref a0), (1, .int 2147483647)]) hx hb dJ7_fill_53178_14 hl (k := 0) rfl (by decide) (by decide) rfl (fun ls hl => ?_)
  refine lv_goto (tgt := 5) hx hb dJ7_fill_53178_17 (by decide) ?_
  refine lv_iload_n hx hb dJ7_fill_53178_5 rfl (lv_at hl 0 rfl) ?_
  refine lv_iload_n hx hb dJ7_fill_53178_6 rfl (lv_at hl 1 rfl) ?_
  refine lv_icmp_ge (tgt := 20) hx hb dJ7_fill_53178_7 (by decide) (fun c9 => absurd c9 (by decide)) (fun _ => ?_)
  refine lv_aload_n hx hb dJ7_fill_53178_10 rfl (lv_at hl 2 rfl) ?_
  refine lv_iload_n hx hb dJ7_fill_53178_11 rfl (lv_at hl 0 rfl) ?_
  refine lv_iload_n hx hb dJ7_fill_53178_12 rfl (lv_at hl 3 rfl) ?_
  refine ia_any hx hb hK hP hD hS 0 0 rfl rfl (inI (by decide)) dJ7_fill_53178_13 (fun f3 H locs hP hD hS => ?_)
  have hP : va_P (dC, dI) vwCl [(a0, .inl (g1, 6, .inl f3))] H := hP
  have hD : va_D A [(a0, .inl (g1, 6, .inl f3))] := hD
  refine lv_iinc (v := 3) (lv' := [(2, .int 3), (3, .int 6), (0, .ref a0), (1, .int 2147483647)]) hx hb dJ7_fill_53178_14 hl (k := 0) rfl (by decide) (by decide) rfl (fun ls hl => ?_)
  refine lv_goto (tgt := 5) hx hb dJ7_fill_53178_17 (by decide) ?_
  refine lv_iload_n hx hb dJ7_fill_53178_5 rfl (lv_at hl 0 rfl) ?_
  refine lv_iload_n hx hb dJ7_fill_53178_6 rfl (lv_at hl 1 rfl) ?_
  refine lv_icmp_ge (tgt := 20) hx hb dJ7_fill_53178_7 (by decide) (fun c9 => absurd c9 (by decide)) (fun _ => ?_)
  refine lv_aload_n hx hb dJ7_fill_53178_10 rfl (lv_at hl 2 rfl) ?_
  refine lv_iload_n hx hb dJ7_fill_53178_11 rfl (lv_at hl 0 rfl) ?_
  refine lv_iload_n hx hb dJ7_fill_53178_12 rfl (lv_at hl 3 rfl) ?_
  refine ia_any hx hb hK hP hD hS 0 0 rfl rfl (inI (by decide)) dJ7_fill_53178_13 (fun f4 H locs hP hD hS => ?_)
  have hP : va_P (dC, dI) vwCl [(a0, .inl (g1, 6, .inl f4))] H := hP
  have hD : va_D A [(a0, .inl (g1, 6, .inl f4))] := hD
  refine lv_iinc (v := 4) (lv' := [(2, .int 4), (3, .int 6), (0, .ref a0), (1, .int 2147483647)]) hx hb dJ7_fill_53178_14 hl (k := 0) rfl (by decide) (by decide) rfl (fun ls hl => ?_)
  refine lv_goto (tgt := 5) hx hb dJ7_fill_53178_17 (by decide) ?_
  refine lv_iload_n hx hb dJ7_fill_53178_5 rfl (lv_at hl 0 rfl) ?_
  refine lv_iload_n hx hb dJ7_fill_53178_6 rfl (lv_at hl 1 rfl) ?_
  refine lv_icmp_ge (tgt := 20) hx hb dJ7_fill_53178_7 (by decide) (fun c9 => absurd c9 (by decide)) (fun _ => ?_)
  refine lv_aload_n hx hb dJ7_fill_53178_10 rfl (lv_at hl 2 rfl) ?_
  refine lv_iload_n hx hb dJ7_fill_53178_11 rfl (lv_at hl 0 rfl) ?_
  refine lv_iload_n hx hb dJ7_fill_53178_12 rfl (lv_at hl 3 rfl) ?_
  refine ia_any hx hb hK hP hD hS 0 0 rfl rfl (inI (by decide)) dJ7_fill_53178_13 (fun f5 H locs hP hD hS => ?_)
  have hP : va_P (dC, dI) vwCl [(a0, .inl (g1, 6, .inl f5))] H := hP
  have hD : va_D A [(a0, .inl (g1, 6, .inl f5))] := hD
  refine lv_iinc (v := 5) (lv' := [(2, .int 5), (3, .int 6), (0, .ref a0), (1, .int 2147483647)]) hx hb dJ7_fill_53178_14 hl (k := 0) rfl (by decide) (by decide) rfl (fun ls hl => ?_)
  refine lv_goto (tgt := 5) hx hb dJ7_fill_53178_17 (by decide) ?_
  refine lv_iload_n hx hb dJ7_fill_53178_5 rfl (lv_at hl 0 rfl) ?_
  refine lv_iload_n hx hb dJ7_fill_53178_6 rfl (lv_at hl 1 rfl) ?_
  refine lv_icmp_ge (tgt := 20) hx hb dJ7_fill_53178_7 (by decide) (fun c9 => absurd c9 (by decide)) (fun _ => ?_)
  refine lv_aload_n hx hb dJ7_fill_53178_10 rfl (lv_at hl 2 rfl) ?_
  refine lv_iload_n hx hb dJ7_fill_53178_11 rfl (lv_at hl 0 rfl) ?_
  refine lv_iload_n hx hb dJ7_fill_53178_12 rfl (lv_at hl 3 rfl) ?_
  refine ia_any hx hb hK hP hD hS 0 0 rfl rfl (inI (by decide)) dJ7_fill_53178_13 (fun f6 H locs hP hD hS => ?_)
  have hP : va_P (dC, dI) vwCl [(a0, .inl (g1, 6, .inl f6))] H := hP
  have hD : va_D A [(a0, .inl (g1, 6, .inl f6))] := hD
  refine lv_iinc (v := 6) (lv' := [(2, .int 6), (3, .int 6), (0, .ref a0), (1, .int 2147483647)]) hx hb dJ7_fill_53178_14 hl (k := 0) rfl (by decide) (by decide) rfl (fun ls hl => ?_)
  refine lv_goto (tgt := 5) hx hb dJ7_fill_53178_17 (by decide) ?_
  refine lv_iload_n hx hb dJ7_fill_53178_5 rfl (lv_at hl 0 rfl) ?_
  refine lv_iload_n hx hb dJ7_fill_53178_6 rfl (lv_at hl 1 rfl) ?_
  refine lv_icmp_ge (tgt := 20) hx hb dJ7_fill_53178_7 (by decide) (fun _ => ?_) (fun c9 => absurd c9 (by decide))
  have hP9 := hP.sub (ws' := [(a0, .inl (g1, 6, .inl f6))]) [0] rfl
  have hD9 := hD.sub (ws' := [(a0, .inl (g1, 6, .inl f6))]) [0] (by decide) rfl
  have hK9 := hK.sub (tys' := [(g1, .int)]) [0] rfl
  refine W.widen (k := 0) (n := 0) (Nat.le_of_ble_eq_true rfl) (Nat.le_of_ble_eq_true rfl) ?_
  exact W.vret hx hb hr (fun t ht hW => ⟨⟨(f6), rfl, trivial, by rw [ht]; exact hP9, va_K.moved hW.alike hK9, hD9⟩, hS.F ht⟩) hS.2.2 dJ7_fill_53178_20
set_option maxHeartbeats 4000000 in
set_option maxRecDepth 100000 in
theorem c_X9_add_1 (l : Launch) (dC : Nat → ClassId) (dI : Nat → Nat → Nat) (a0 : Nat) (a1 : Nat) (a2 : Nat) (a3 : Nat) (a4 : Nat) (a5 : Nat) (a6 : Nat) (a7 : Nat) (a8 : Nat) (g9 : ClassId) (g10 : ClassId) (g11 : ClassId) (g12 : ClassId) (sz : Nat) : Met l yX9_add (Cond.code yX9_add cX9_add 5 none :: wB) { frames := 0, cells := 0, slots := 0, locals := 0 } (va_Pc [.ref a0, .int 0, .int 0, .int 0, .int 0] (pX (dC, dI) sz [(a0, .inr (9, [.ref a1, .ref a2, .ref a3, .ref a4, .ref a5, .ref a6, .ref a7, .int 0, .ref a8, .int 0, .int 0, .int 0])), (a1, .inl (g9, 2003, .inl (fun _ => 0))), (a2, .inl (g10, 2003, .inl (fun _ => 0))), (a3, .inl (g11, 2003, .inl (fun _ => 0))), (a4, .inl (g12, 2003, .inl (fun _ => 0)))] [(g9, .int), (g10, .int), (g11, .int), (g12, .int)])) (va_Qv (fun _ : (Nat → Int32) × (Nat → Int32) => True) (fun z t => qX (dC, dI) [(a0, .inr (9, [.ref a1, .ref a2, .ref a3, .ref a4, .ref a5, .ref a6, .ref a7, .int 0, .ref a8, .int 0, .int 1, .int 0])), (a1, .inl (g9, 2003, .inl (upd (fun _ => 0) 0 0))), (a2, .inl (g10, 2003, .inl (upd (fun _ => 0) 0 0))), (a3, .inl (g11, 2003, .inl z.1)), (a4, .inl (g12, 2003, .inl z.2))] [(g9, .int), (g10, .int), (g11, .int), (g12, .int)] (va_A [(a0, .inr (9, [.ref a1, .ref a2, .ref a3, .ref a4, .ref a5, .ref a6, .ref a7, .int 0, .ref a8, .int 0, .int 0, .int 0])), (a1, .inl (g9, 2003, .inl (fun _ => 0))), (a2, .inl (g10, 2003, .inl (fun _ => 0))), (a3, .inl (g11, 2003, .inl (fun _ => 0))), (a4, .inl (g12, 2003, .inl (fun _ => 0)))] sz) t) (va_A [(a0, .inr (9, [.ref a1, .ref a2, .ref a3, .ref a4, .ref a5, .ref a6, .ref a7, .int 0, .ref a8, .int 0, .int 0, .int 0])), (a1, .inl (g9, 2003, .inl (fun _ => 0))), (a2, .inl (g10, 2003, .inl (fun _ => 0))), (a3, .inl (g11, 2003, .inl (fun _ => 0))), (a4, .inl (g12, 2003, .inl (fun _ => 0)))] sz)) 0 0 (va_A [(a0, .inr (9, [.ref a1, .ref a2, .ref a3, .ref a4, .ref a5, .ref a6, .ref a7, .int 0, .ref a8, .int 0, .int 0, .int 0])), (a1, .inl (g9, 2003, .inl (fun _ => 0))), (a2, .inl (g10, 2003, .inl (fun _ => 0))), (a3, .inl (g11, 2003, .inl (fun _ => 0))), (a4, .inl (g12, 2003, .inl (fun _ => 0)))] sz) := by
  refine Met.ofW (cc := cX9_add) (maxL := 5) (ret := none) (by decide) rfl ?_
  intro p e s m args below meth c s₁ B hml hv
  obtain ⟨rfl, hsz, hP, hK, hD0, hN⟩ := hv
  have hx := B.exec
  have hb := B.bytes
  have hr := B.returns
  have hts : ∀ w ∈ wB, w.before _ s = true := fun w h => atoms_spec (ws := Cond.code yX9_add cX9_add 5 none :: wB) B.pre w (List.mem_cons_of_mem _ h)
  have hown : s.vm.findClass RX9 = some m.cls := findClass_of_methodNamed B.named
  have hlocks := B.notSynchronized
  subst hsz
  have hD := hD0.self (sz := s.heap.size)
  generalize hAe : va_A [(a0, .inr (9, [.ref a1, .ref a2, .ref a3, .ref a4, .ref a5, .ref a6, .ref a7, .int 0, .ref a8, .int 0, .int 0, .int 0])), (a1, .inl (g9, 2003, .inl (fun _ => 0))), (a2, .inl (g10, 2003, .inl (fun _ => 0))), (a3, .inl (g11, 2003, .inl (fun _ => 0))), (a4, .inl (g12, 2003, .inl (fun _ => 0)))] s.heap.size = A at hD ⊢
  have hA : ∀ q : Nat, s.heap.size ≤ q → A q := fun q h => by rw [← hAe]; exact Or.inr h
  have hS : va_S A s.heap s.heap [] := va_S.rf
  have hP : va_P (dC, dI) vwCl [(a0, .inr (9, [.ref a1, .ref a2, .ref a3, .ref a4, .ref a5, .ref a6, .ref a7, .int 0, .ref a8, .int 0, .int 0, .int 0])), (a1, .inl (g9, 2003, .inl (fun _ => 0))), (a2, .inl (g10, 2003, .inl (fun _ => 0))), (a3, .inl (g11, 2003, .inl (fun _ => 0))), (a4, .inl (g12, 2003, .inl (fun _ => 0)))] s.heap := hP
  have hl := lv_entry ([.ref a0, .int 0, .int 0, .int 0, .int 0]) (n := 5) (Nat.le_of_ble_eq_true rfl)
  rw [lg_entry_eq]
  generalize (lg_sl ([.ref a0, .int 0, .int 0, .int 0, .int 0]) ++ List.replicate (5 - (lg_sl ([.ref a0, .int 0, .int 0, .int 0, .int 0])).length) Slot.unset).toArray = ls at hl ⊢
  have hl : lv_has ls 5 [(0, .ref a0), (1, .int 0), (2, .int 0), (3, .int 0), (4, .int 0)] := hl
  refine lv_aload_n hx hb dX9_add_0 rfl (lv_at hl 0 rfl) ?_
  refine va_get (D := (dC, dI)) (ci := 9) (v := .int 0) (C := RX9) (T := TX9) (N := 12) hx hb hts iX9 hown hK hP 0 rfl rfl 10 (by decide) (hts _ k210) (fun _ h9 => h9) rfl dX9_add_1 ?_
  refine lv_sipush (v := 2003) hx hb dX9_add_4 (by decide) ?_
  refine lv_icmp_ge (tgt := 61) hx hb dX9_add_7 (by decide) (fun c9 => absurd c9 (by decide)) (fun _ => ?_)
  refine lv_aload_n hx hb dX9_add_10 rfl (lv_at hl 0 rfl) ?_
  refine va_get (D := (dC, dI)) (ci := 9) (v := .ref a1) (C := RX9) (T := TX9) (N := 12) hx hb hts iX9 hown hK hP 0 rfl rfl 0 (by decide) (hts _ k17) (fun _ h9 => h9) rfl dX9_add_11 ?_
  refine lv_aload_n hx hb dX9_add_14 rfl (lv_at hl 0 rfl) ?_
  refine va_get (D := (dC, dI)) (ci := 9) (v := .int 0) (C := RX9) (T := TX9) (N := 12) hx hb hts iX9 hown hK hP 0 rfl rfl 10 (by decide) (hts _ k210) (fun _ h9 => h9) rfl dX9_add_15 ?_
  refine lv_iload_n hx hb dX9_add_18 rfl (lv_at hl 1 rfl) ?_
  refine va_iast hx hb hK hP hD hS 1 0 rfl rfl (inI (by decide)) dX9_add_19 (fun H locs hP hD hS => ?_)
  have hP : va_P (dC, dI) vwCl [(a0, .inr (9, [.ref a1, .ref a2, .ref a3, .ref a4, .ref a5, .ref a6, .ref a7, .int 0, .ref a8, .int 0, .int 0, .int 0])), (a1, .inl (g9, 2003, .inl (upd (fun _ => 0) 0 0))), (a2, .inl (g10, 2003, .inl (fun _ => 0))), (a3, .inl (g11, 2003, .inl (fun _ => 0))), (a4, .inl (g12, 2003, .inl (fun _ => 0)))] H := hP
  have hD : va_D A [(a0, .inr (9, [.ref a1, .ref a2, .ref a3, .ref a4, .ref a5, .ref a6, .ref a7, .int 0, .ref a8, .int 0, .int 0, .int 0])), (a1, .inl (g9, 2003, .inl (upd (fun _ => 0) 0 0))), (a2, .inl (g10, 2003, .inl (fun _ => 0))), (a3, .inl (g11, 2003, .inl (fun _ => 0))), (a4, .inl (g12, 2003, .inl (fun _ => 0)))] := hD
  refine lv_aload_n hx hb dX9_add_20 rfl (lv_at hl 0 rfl) ?_
  refine va_get (D := (dC, dI)) (ci := 9) (v := .ref a2) (C := RX9) (T := TX9) (N := 12) hx hb hts iX9 hown hK hP 0 rfl rfl 1 (by decide) (hts _ k18) (fun _ h9 => h9) rfl dX9_add_21 ?_
  refine lv_aload_n hx hb dX9_add_24 rfl (lv_at hl 0 rfl) ?_
  refine va_get (D := (dC, dI)) (ci := 9) (v := .int 0) (C := RX9) (T := TX9) (N := 12) hx hb hts iX9 hown hK hP 0 rfl rfl 10 (by decide) (hts _ k210) (fun _ h9 => h9) rfl dX9_add_25 ?_
  refine lv_iload_n hx hb dX9_add_28 rfl (lv_at hl 2 rfl) ?_
  refine va_iast hx hb hK hP hD hS 2 1 rfl rfl (inI (by decide)) dX9_add_29 (fun H locs hP hD hS => ?_)
  have hP : va_P (dC, dI) vwCl [(a0, .inr (9, [.ref a1, .ref a2, .ref a3, .ref a4, .ref a5, .ref a6, .ref a7, .int 0, .ref a8, .int 0, .int 0, .int 0])), (a1, .inl (g9, 2003, .inl (upd (fun _ => 0) 0 0))), (a2, .inl (g10, 2003, .inl (upd (fun _ => 0) 0 0))), (a3, .inl (g11, 2003, .inl (fun _ => 0))), (a4, .inl (g12, 2003, .inl (fun _ => 0)))] H := hP
  have hD : va_D A [(a0, .inr (9, [.ref a1, .ref a2, .ref a3, .ref a4, .ref a5, .ref a6, .ref a7, .int 0, .ref a8, .int 0, .int 0, .int 0])), (a1, .inl (g9, 2003, .inl (upd (fun _ => 0) 0 0))), (a2, .inl (g10, 2003, .inl (upd (fun _ => 0) 0 0))), (a3, .inl (g11, 2003, .inl (fun _ => 0))), (a4, .inl (g12, 2003, .inl (fun _ => 0)))] := hD
  refine lv_aload_n hx hb dX9_add_30 rfl (lv_at hl 0 rfl) ?_
  refine va_get (D := (dC, dI)) (ci := 9) (v := .ref a3) (C := RX9) (T := TX9) (N := 12) hx hb hts iX9 hown hK hP 0 rfl rfl 2 (by decide) (hts _ k19) (fun _ h9 => h9) rfl dX9_add_31 ?_
  refine lv_aload_n hx hb dX9_add_34 rfl (lv_at hl 0 rfl) ?_
  refine va_get (D := (dC, dI)) (ci := 9) (v := .int 0) (C := RX9) (T := TX9) (N := 12) hx hb hts iX9 hown hK hP 0 rfl rfl 10 (by decide) (hts _ k210) (fun _ h9 => h9) rfl dX9_add_35 ?_
  refine lv_iload_n hx hb dX9_add_38 rfl (lv_at hl 3 rfl) ?_
  refine ia_any hx hb hK hP hD hS 3 2 rfl rfl (inI (by decide)) dX9_add_39 (fun f1 H locs hP hD hS => ?_)
  have hP : va_P (dC, dI) vwCl [(a0, .inr (9, [.ref a1, .ref a2, .ref a3, .ref a4, .ref a5, .ref a6, .ref a7, .int 0, .ref a8, .int 0, .int 0, .int 0])), (a1, .inl (g9, 2003, .inl (upd (fun _ => 0) 0 0))), (a2, .inl (g10, 2003, .inl (upd (fun _ => 0) 0 0))), (a3, .inl (g11, 2003, .inl f1)), (a4, .inl (g12, 2003, .inl (fun _ => 0)))] H := hP
  have hD : va_D A [(a0, .inr (9, [.ref a1, .ref a2, .ref a3, .ref a4, .ref a5, .ref a6, .ref a7, .int 0, .ref a8, .int 0, .int 0, .int 0])), (a1, .inl (g9, 2003, .inl (upd (fun _ => 0) 0 0))), (a2, .inl (g10, 2003, .inl (upd (fun _ => 0) 0 0))), (a3, .inl (g11, 2003, .inl f1)), (a4, .inl (g12, 2003, .inl (fun _ => 0)))] := hD
  refine lv_aload_n hx hb dX9_add_40 rfl (lv_at hl 0 rfl) ?_
  refine va_get (D := (dC, dI)) (ci := 9) (v := .ref a4) (C := RX9) (T := TX9) (N := 12) hx hb hts iX9 hown hK hP 0 rfl rfl 3 (by decide) (hts _ k20) (fun _ h9 => h9) rfl dX9_add_41 ?_
  refine lv_aload_n hx hb dX9_add_44 rfl (lv_at hl 0 rfl) ?_
  refine va_get (D := (dC, dI)) (ci := 9) (v := .int 0) (C := RX9) (T := TX9) (N := 12) hx hb hts iX9 hown hK hP 0 rfl rfl 10 (by decide) (hts _ k210) (fun _ h9 => h9) rfl dX9_add_45 ?_
  refine lv_iload hx hb dX9_add_48 (lv_at hl 4 rfl) ?_
  refine ia_any hx hb hK hP hD hS 4 3 rfl rfl (inI (by decide)) dX9_add_50 (fun f2 H locs hP hD hS => ?_)
  have hP : va_P (dC, dI) vwCl [(a0, .inr (9, [.ref a1, .ref a2, .ref a3, .ref a4, .ref a5, .ref a6, .ref a7, .int 0, .ref a8, .int 0, .int 0, .int 0])), (a1, .inl (g9, 2003, .inl (upd (fun _ => 0) 0 0))), (a2, .inl (g10, 2003, .inl (upd (fun _ => 0) 0 0))), (a3, .inl (g11, 2003, .inl f1)), (a4, .inl (g12, 2003, .inl f2))] H := hP
  have hD : va_D A [(a0, .inr (9, [.ref a1, .ref a2, .ref a3, .ref a4, .ref a5, .ref a6, .ref a7, .int 0, .ref a8, .int 0, .int 0, .int 0])), (a1, .inl (g9, 2003, .inl (upd (fun _ => 0) 0 0))), (a2, .inl (g10, 2003, .inl (upd (fun _ => 0) 0 0))), (a3, .inl (g11, 2003, .inl f1)), (a4, .inl (g12, 2003, .inl f2))] := hD
  refine lv_aload_n hx hb dX9_add_51 rfl (lv_at hl 0 rfl) ?_
  refine lv_dup hx hb dX9_add_52 rfl ?_
  refine va_get (D := (dC, dI)) (ci := 9) (v := .int 0) (C := RX9) (T := TX9) (N := 12) hx hb hts iX9 hown hK hP 0 rfl rfl 10 (by decide) (hts _ k210) (fun _ h9 => h9) rfl dX9_add_53 ?_
  refine lv_iconst (v := 1) hx hb dX9_add_56 (by decide) ?_
  refine lv_iadd hx hb dX9_add_57 ?_
  refine lv_is 1 (by decide) ?_
  refine va_put (D := (dC, dI)) (ci := 9) (v := .int 1) (ty := .int) (C := RX9) (T := TX9) (N := 12) hx hb hts iX9 tyX9 tyX9_ok nmX9 hown hK hP hD hS 0 rfl rfl 10 (by decide) (hts _ k210) (fun _ h9 => h9) rfl (by decide +kernel) rfl rfl (Nat.le_of_ble_eq_true rfl) dX9_add_58 (fun H locs hP hD hS => ?_)
  have hP : va_P (dC, dI) vwCl [(a0, .inr (9, [.ref a1, .ref a2, .ref a3, .ref a4, .ref a5, .ref a6, .ref a7, .int 0, .ref a8, .int 0, .int 1, .int 0])), (a1, .inl (g9, 2003, .inl (upd (fun _ => 0) 0 0))), (a2, .inl (g10, 2003, .inl (upd (fun _ => 0) 0 0))), (a3, .inl (g11, 2003, .inl f1)), (a4, .inl (g12, 2003, .inl f2))] H := hP
  have hD : va_D A [(a0, .inr (9, [.ref a1, .ref a2, .ref a3, .ref a4, .ref a5, .ref a6, .ref a7, .int 0, .ref a8, .int 0, .int 1, .int 0])), (a1, .inl (g9, 2003, .inl (upd (fun _ => 0) 0 0))), (a2, .inl (g10, 2003, .inl (upd (fun _ => 0) 0 0))), (a3, .inl (g11, 2003, .inl f1)), (a4, .inl (g12, 2003, .inl f2))] := hD
  have hP9 := hP.sub (ws' := [(a0, .inr (9, [.ref a1, .ref a2, .ref a3, .ref a4, .ref a5, .ref a6, .ref a7, .int 0, .ref a8, .int 0, .int 1, .int 0])), (a1, .inl (g9, 2003, .inl (upd (fun _ => 0) 0 0))), (a2, .inl (g10, 2003, .inl (upd (fun _ => 0) 0 0))), (a3, .inl (g11, 2003, .inl f1)), (a4, .inl (g12, 2003, .inl f2))]) [0, 1, 2, 3, 4] rfl
  have hD9 := hD.sub (ws' := [(a0, .inr (9, [.ref a1, .ref a2, .ref a3, .ref a4, .ref a5, .ref a6, .ref a7, .int 0, .ref a8, .int 0, .int 1, .int 0])), (a1, .inl (g9, 2003, .inl (upd (fun _ => 0) 0 0))), (a2, .inl (g10, 2003, .inl (upd (fun _ => 0) 0 0))), (a3, .inl (g11, 2003, .inl f1)), (a4, .inl (g12, 2003, .inl f2))]) [0, 1, 2, 3, 4] (by decide) rfl
  have hK9 := hK.sub (tys' := [(g9, .int), (g10, .int), (g11, .int), (g12, .int)]) [0, 1, 2, 3] rfl
  refine W.widen (k := 0) (n := 0) (Nat.le_of_ble_eq_true rfl) (Nat.le_of_ble_eq_true rfl) ?_
  exact W.vret hx hb hr (fun t ht hW => ⟨⟨(f1, f2), rfl, trivial, by rw [ht]; exact hP9, va_K.moved hW.alike hK9, hD9⟩, hS.F ht⟩) hS.2.2 dX9_add_61
set_option maxHeartbeats 4000000 in
set_option maxRecDepth 100000 in
theorem c_X9_add_2 (l : Launch) (dC : Nat → ClassId) (dI : Nat → Nat → Nat) (a0 : Nat) (a1 : Nat) (a2 : Nat) (a3 : Nat) (a4 : Nat) (a5 : Nat) (a6 : Nat) (a7 : Nat) (a8 : Nat) (g9 : ClassId) (g10 : ClassId) (g11 : ClassId) (u12 : Nat → Int32) (g13 : ClassId) (u14 : Nat → Int32) (sz : Nat) : Met l yX9_add (Cond.code yX9_add cX9_add 5 none :: wB) { frames := 0, cells := 0, slots := 0, locals := 0 } (va_Pc [.ref a0, .int 0, .int 0, .int 0, .int 0] (pX (dC, dI) sz [(a0, .inr (9, [.ref a1, .ref a2, .ref a3, .ref a4, .ref a5, .ref a6, .ref a7, .int 0, .ref a8, .int 0, .int 1, .int 0])), (a1, .inl (g9, 2003, .inl (upd (fun _ => 0) 0 0))), (a2, .inl (g10, 2003, .inl (upd (fun _ => 0) 0 0))), (a3, .inl (g11, 2003, .inl u12)), (a4, .inl (g13, 2003, .inl u14))] [(g9, .int), (g10, .int), (g11, .int), (g13, .int)])) (va_Qv (fun _ : (Nat → Int32) × (Nat → Int32) => True) (fun z t => qX (dC, dI) [(a0, .inr (9, [.ref a1, .ref a2, .ref a3, .ref a4, .ref a5, .ref a6, .ref a7, .int 0, .ref a8, .int 0, .int 2, .int 0])), (a1, .inl (g9, 2003, .inl (upd (upd (fun _ => 0) 0 0) 1 0))), (a2, .inl (g10, 2003, .inl (upd (upd (fun _ => 0) 0 0) 1 0))), (a3, .inl (g11, 2003, .inl z.1)), (a4, .inl (g13, 2003, .inl z.2))] [(g9, .int), (g10, .int), (g11, .int), (g13, .int)] (va_A [(a0, .inr (9, [.ref a1, .ref a2, .ref a3, .ref a4, .ref a5, .ref a6, .ref a7, .int 0, .ref a8, .int 0, .int 1, .int 0])), (a1, .inl (g9, 2003, .inl (upd (fun _ => 0) 0 0))), (a2, .inl (g10, 2003, .inl (upd (fun _ => 0) 0 0))), (a3, .inl (g11, 2003, .inl u12)), (a4, .inl (g13, 2003, .inl u14))] sz) t) (va_A [(a0, .inr (9, [.ref a1, .ref a2, .ref a3, .ref a4, .ref a5, .ref a6, .ref a7, .int 0, .ref a8, .int 0, .int 1, .int 0])), (a1, .inl (g9, 2003, .inl (upd (fun _ => 0) 0 0))), (a2, .inl (g10, 2003, .inl (upd (fun _ => 0) 0 0))), (a3, .inl (g11, 2003, .inl u12)), (a4, .inl (g13, 2003, .inl u14))] sz)) 0 0 (va_A [(a0, .inr (9, [.ref a1, .ref a2, .ref a3, .ref a4, .ref a5, .ref a6, .ref a7, .int 0, .ref a8, .int 0, .int 1, .int 0])), (a1, .inl (g9, 2003, .inl (upd (fun _ => 0) 0 0))), (a2, .inl (g10, 2003, .inl (upd (fun _ => 0) 0 0))), (a3, .inl (g11, 2003, .inl u12)), (a4, .inl (g13, 2003, .inl u14))] sz) := by
  refine Met.ofW (cc := cX9_add) (maxL := 5) (ret := none) (by decide) rfl ?_
  intro p e s m args below meth c s₁ B hml hv
  obtain ⟨rfl, hsz, hP, hK, hD0, hN⟩ := hv
  have hx := B.exec
  have hb := B.bytes
  have hr := B.returns
  have hts : ∀ w ∈ wB, w.before _ s = true := fun w h => atoms_spec (ws := Cond.code yX9_add cX9_add 5 none :: wB) B.pre w (List.mem_cons_of_mem _ h)
  have hown : s.vm.findClass RX9 = some m.cls := findClass_of_methodNamed B.named
  have hlocks := B.notSynchronized
  subst hsz
  have hD := hD0.self (sz := s.heap.size)
  generalize hAe : va_A [(a0, .inr (9, [.ref a1, .ref a2, .ref a3, .ref a4, .ref a5, .ref a6, .ref a7, .int 0, .ref a8, .int 0, .int 1, .int 0])), (a1, .inl (g9, 2003, .inl (upd (fun _ => 0) 0 0))), (a2, .inl (g10, 2003, .inl (upd (fun _ => 0) 0 0))), (a3, .inl (g11, 2003, .inl u12)), (a4, .inl (g13, 2003, .inl u14))] s.heap.size = A at hD ⊢
  have hA : ∀ q : Nat, s.heap.size ≤ q → A q := fun q h => by rw [← hAe]; exact Or.inr h
  have hS : va_S A s.heap s.heap [] := va_S.rf
  have hP : va_P (dC, dI) vwCl [(a0, .inr (9, [.ref a1, .ref a2, .ref a3, .ref a4, .ref a5, .ref a6, .ref a7, .int 0, .ref a8, .int 0, .int 1, .int 0])), (a1, .inl (g9, 2003, .inl (upd (fun _ => 0) 0 0))), (a2, .inl (g10, 2003, .inl (upd (fun _ => 0) 0 0))), (a3, .inl (g11, 2003, .inl u12)), (a4, .inl (g13, 2003, .inl u14))] s.heap := hP
  have hl := lv_entry ([.ref a0, .int 0, .int 0, .int 0, .int 0]) (n := 5) (Nat.le_of_ble_eq_true rfl)
  rw [lg_entry_eq]
  generalize (lg_sl ([.ref a0, .int 0, .int 0, .int 0, .int 0]) ++ List.replicate (5 - (lg_sl ([.ref a0, .int 0, .int 0, .int 0, .int 0])).length) Slot.unset).toArray = ls at hl ⊢
  have hl : lv_has ls 5 [(0, .ref a0), (1, .int 0), (2, .int 0), (3, .int 0), (4, .int 0)] := hl
  refine lv_aload_n hx hb dX9_add_0 rfl (lv_at hl 0 rfl) ?_
  refine va_get (D := (dC, dI)) (ci := 9) (v := .int 1) (C := RX9) (T := TX9) (N := 12) hx hb hts iX9 hown hK hP 0 rfl rfl 10 (by decide) (hts _ k210) (fun _ h9 => h9) rfl dX9_add_1 ?_
  refine lv_sipush (v := 2003) hx hb dX9_add_4 (by decide) ?_
  refine lv_icmp_ge (tgt := 61) hx hb dX9_add_7 (by decide) (fun c9 => absurd c9 (by decide)) (fun _ => ?_)
  refine lv_aload_n hx hb dX9_add_10 rfl (lv_at hl 0 rfl) ?_
  refine va_get (D := (dC, dI)) (ci := 9) (v := .ref a1) (C := RX9) (T := TX9) (N := 12) hx hb hts iX9 hown hK hP 0 rfl rfl 0 (by decide) (hts _ k17) (fun _ h9 => h9) rfl dX9_add_11 ?_
  refine lv_aload_n hx hb dX9_add_14 rfl (lv_at hl 0 rfl) ?_
  refine va_get (D := (dC, dI)) (ci := 9) (v := .int 1) (C := RX9) (T := TX9) (N := 12) hx hb hts iX9 hown hK hP 0 rfl rfl 10 (by decide) (hts _ k210) (fun _ h9 => h9) rfl dX9_add_15 ?_
  refine lv_iload_n hx hb dX9_add_18 rfl (lv_at hl 1 rfl) ?_
  refine va_iast hx hb hK hP hD hS 1 0 rfl rfl (inI (by decide)) dX9_add_19 (fun H locs hP hD hS => ?_)
  have hP : va_P (dC, dI) vwCl [(a0, .inr (9, [.ref a1, .ref a2, .ref a3, .ref a4, .ref a5, .ref a6, .ref a7, .int 0, .ref a8, .int 0, .int 1, .int 0])), (a1, .inl (g9, 2003, .inl (upd (upd (fun _ => 0) 0 0) 1 0))), (a2, .inl (g10, 2003, .inl (upd (fun _ => 0) 0 0))), (a3, .inl (g11, 2003, .inl u12)), (a4, .inl (g13, 2003, .inl u14))] H := hP
  have hD : va_D A [(a0, .inr (9, [.ref a1, .ref a2, .ref a3, .ref a4, .ref a5, .ref a6, .ref a7, .int 0, .ref a8, .int 0, .int 1, .int 0])), (a1, .inl (g9, 2003, .inl (upd (upd (fun _ => 0) 0 0) 1 0))), (a2, .inl (g10, 2003, .inl (upd (fun _ => 0) 0 0))), (a3, .inl (g11, 2003, .inl u12)), (a4, .inl (g13, 2003, .inl u14))] := hD
  refine lv_aload_n hx hb dX9_add_20 rfl (lv_at hl 0 rfl) ?_
  refine va_get (D := (dC, dI)) (ci := 9) (v := .ref a2) (C := RX9) (T := TX9) (N := 12) hx hb hts iX9 hown hK hP 0 rfl rfl 1 (by decide) (hts _ k18) (fun _ h9 => h9) rfl dX9_add_21 ?_
  refine lv_aload_n hx hb dX9_add_24 rfl (lv_at hl 0 rfl) ?_
  refine va_get (D := (dC, dI)) (ci := 9) (v := .int 1) (C := RX9) (T := TX9) (N := 12) hx hb hts iX9 hown hK hP 0 rfl rfl 10 (by decide) (hts _ k210) (fun _ h9 => h9) rfl dX9_add_25 ?_
  refine lv_iload_n hx hb dX9_add_28 rfl (lv_at hl 2 rfl) ?_
  refine va_iast hx hb hK hP hD hS 2 1 rfl rfl (inI (by decide)) dX9_add_29 (fun H locs hP hD hS => ?_)
  have hP : va_P (dC, dI) vwCl [(a0, .inr (9, [.ref a1, .ref a2, .ref a3, .ref a4, .ref a5, .ref a6, .ref a7, .int 0, .ref a8, .int 0, .int 1, .int 0])), (a1, .inl (g9, 2003, .inl (upd (upd (fun _ => 0) 0 0) 1 0))), (a2, .inl (g10, 2003, .inl (upd (upd (fun _ => 0) 0 0) 1 0))), (a3, .inl (g11, 2003, .inl u12)), (a4, .inl (g13, 2003, .inl u14))] H := hP
  have hD : va_D A [(a0, .inr (9, [.ref a1, .ref a2, .ref a3, .ref a4, .ref a5, .ref a6, .ref a7, .int 0, .ref a8, .int 0, .int 1, .int 0])), (a1, .inl (g9, 2003, .inl (upd (upd (fun _ => 0) 0 0) 1 0))), (a2, .inl (g10, 2003, .inl (upd (upd (fun _ => 0) 0 0) 1 0))), (a3, .inl (g11, 2003, .inl u12)), (a4, .inl (g13, 2003, .inl u14))] := hD
  refine lv_aload_n hx hb dX9_add_30 rfl (lv_at hl 0 rfl) ?_
  refine va_get (D := (dC, dI)) (ci := 9) (v := .ref a3) (C := RX9) (T := TX9) (N := 12) hx hb hts iX9 hown hK hP 0 rfl rfl 2 (by decide) (hts _ k19) (fun _ h9 => h9) rfl dX9_add_31 ?_
  refine lv_aload_n hx hb dX9_add_34 rfl (lv_at hl 0 rfl) ?_
  refine va_get (D := (dC, dI)) (ci := 9) (v := .int 1) (C := RX9) (T := TX9) (N := 12) hx hb hts iX9 hown hK hP 0 rfl rfl 10 (by decide) (hts _ k210) (fun _ h9 => h9) rfl dX9_add_35 ?_
  refine lv_iload_n hx hb dX9_add_38 rfl (lv_at hl 3 rfl) ?_
  refine ia_any hx hb hK hP hD hS 3 2 rfl rfl (inI (by decide)) dX9_add_39 (fun f1 H locs hP hD hS => ?_)
  have hP : va_P (dC, dI) vwCl [(a0, .inr (9, [.ref a1, .ref a2, .ref a3, .ref a4, .ref a5, .ref a6, .ref a7, .int 0, .ref a8, .int 0, .int 1, .int 0])), (a1, .inl (g9, 2003, .inl (upd (upd (fun _ => 0) 0 0) 1 0))), (a2, .inl (g10, 2003, .inl (upd (upd (fun _ => 0) 0 0) 1 0))), (a3, .inl (g11, 2003, .inl f1)), (a4, .inl (g13, 2003, .inl u14))] H := hP
  have hD : va_D A [(a0, .inr (9, [.ref a1, .ref a2, .ref a3, .ref a4, .ref a5, .ref a6, .ref a7, .int 0, .ref a8, .int 0, .int 1, .int 0])), (a1, .inl (g9, 2003, .inl (upd (upd (fun _ => 0) 0 0) 1 0))), (a2, .inl (g10, 2003, .inl (upd (upd (fun _ => 0) 0 0) 1 0))), (a3, .inl (g11, 2003, .inl f1)), (a4, .inl (g13, 2003, .inl u14))] := hD
  refine lv_aload_n hx hb dX9_add_40 rfl (lv_at hl 0 rfl) ?_
  refine va_get (D := (dC, dI)) (ci := 9) (v := .ref a4) (C := RX9) (T := TX9) (N := 12) hx hb hts iX9 hown hK hP 0 rfl rfl 3 (by decide) (hts _ k20) (fun _ h9 => h9) rfl dX9_add_41 ?_
  refine lv_aload_n hx hb dX9_add_44 rfl (lv_at hl 0 rfl) ?_
  refine va_get (D := (dC, dI)) (ci := 9) (v := .int 1) (C := RX9) (T := TX9) (N := 12) hx hb hts iX9 hown hK hP 0 rfl rfl 10 (by decide) (hts _ k210) (fun _ h9 => h9) rfl dX9_add_45 ?_
  refine lv_iload hx hb dX9_add_48 (lv_at hl 4 rfl) ?_
  refine ia_any hx hb hK hP hD hS 4 3 rfl rfl (inI (by decide)) dX9_add_50 (fun f2 H locs hP hD hS => ?_)
  have hP : va_P (dC, dI) vwCl [(a0, .inr (9, [.ref a1, .ref a2, .ref a3, .ref a4, .ref a5, .ref a6, .ref a7, .int 0, .ref a8, .int 0, .int 1, .int 0])), (a1, .inl (g9, 2003, .inl (upd (upd (fun _ => 0) 0 0) 1 0))), (a2, .inl (g10, 2003, .inl (upd (upd (fun _ => 0) 0 0) 1 0))), (a3, .inl (g11, 2003, .inl f1)), (a4, .inl (g13, 2003, .inl f2))] H := hP
  have hD : va_D A [(a0, .inr (9, [.ref a1, .ref a2, .ref a3, .ref a4, .ref a5, .ref a6, .ref a7, .int 0, .ref a8, .int 0, .int 1, .int 0])), (a1, .inl (g9, 2003, .inl (upd (upd (fun _ => 0) 0 0) 1 0))), (a2, .inl (g10, 2003, .inl (upd (upd (fun _ => 0) 0 0) 1 0))), (a3, .inl (g11, 2003, .inl f1)), (a4, .inl (g13, 2003, .inl f2))] := hD
  refine lv_aload_n hx hb dX9_add_51 rfl (lv_at hl 0 rfl) ?_
  refine lv_dup hx hb dX9_add_52 rfl ?_
  refine va_get (D := (dC, dI)) (ci := 9) (v := .int 1) (C := RX9) (T := TX9) (N := 12) hx hb hts iX9 hown hK hP 0 rfl rfl 10 (by decide) (hts _ k210) (fun _ h9 => h9) rfl dX9_add_53 ?_
  refine lv_iconst (v := 1) hx hb dX9_add_56 (by decide) ?_
  refine lv_iadd hx hb dX9_add_57 ?_
  refine lv_is 2 (by decide) ?_
  refine va_put (D := (dC, dI)) (ci := 9) (v := .int 2) (ty := .int) (C := RX9) (T := TX9) (N := 12) hx hb hts iX9 tyX9 tyX9_ok nmX9 hown hK hP hD hS 0 rfl rfl 10 (by decide) (hts _ k210) (fun _ h9 => h9) rfl (by decide +kernel) rfl rfl (Nat.le_of_ble_eq_true rfl) dX9_add_58 (fun H locs hP hD hS => ?_)
  have hP : va_P (dC, dI) vwCl [(a0, .inr (9, [.ref a1, .ref a2, .ref a3, .ref a4, .ref a5, .ref a6, .ref a7, .int 0, .ref a8, .int 0, .int 2, .int 0])), (a1, .inl (g9, 2003, .inl (upd (upd (fun _ => 0) 0 0) 1 0))), (a2, .inl (g10, 2003, .inl (upd (upd (fun _ => 0) 0 0) 1 0))), (a3, .inl (g11, 2003, .inl f1)), (a4, .inl (g13, 2003, .inl f2))] H := hP
  have hD : va_D A [(a0, .inr (9, [.ref a1, .ref a2, .ref a3, .ref a4, .ref a5, .ref a6, .ref a7, .int 0, .ref a8, .int 0, .int 2, .int 0])), (a1, .inl (g9, 2003, .inl (upd (upd (fun _ => 0) 0 0) 1 0))), (a2, .inl (g10, 2003, .inl (upd (upd (fun _ => 0) 0 0) 1 0))), (a3, .inl (g11, 2003, .inl f1)), (a4, .inl (g13, 2003, .inl f2))] := hD
  have hP9 := hP.sub (ws' := [(a0, .inr (9, [.ref a1, .ref a2, .ref a3, .ref a4, .ref a5, .ref a6, .ref a7, .int 0, .ref a8, .int 0, .int 2, .int 0])), (a1, .inl (g9, 2003, .inl (upd (upd (fun _ => 0) 0 0) 1 0))), (a2, .inl (g10, 2003, .inl (upd (upd (fun _ => 0) 0 0) 1 0))), (a3, .inl (g11, 2003, .inl f1)), (a4, .inl (g13, 2003, .inl f2))]) [0, 1, 2, 3, 4] rfl
  have hD9 := hD.sub (ws' := [(a0, .inr (9, [.ref a1, .ref a2, .ref a3, .ref a4, .ref a5, .ref a6, .ref a7, .int 0, .ref a8, .int 0, .int 2, .int 0])), (a1, .inl (g9, 2003, .inl (upd (upd (fun _ => 0) 0 0) 1 0))), (a2, .inl (g10, 2003, .inl (upd (upd (fun _ => 0) 0 0) 1 0))), (a3, .inl (g11, 2003, .inl f1)), (a4, .inl (g13, 2003, .inl f2))]) [0, 1, 2, 3, 4] (by decide) rfl
  have hK9 := hK.sub (tys' := [(g9, .int), (g10, .int), (g11, .int), (g13, .int)]) [0, 1, 2, 3] rfl
  refine W.widen (k := 0) (n := 0) (Nat.le_of_ble_eq_true rfl) (Nat.le_of_ble_eq_true rfl) ?_
  exact W.vret hx hb hr (fun t ht hW => ⟨⟨(f1, f2), rfl, trivial, by rw [ht]; exact hP9, va_K.moved hW.alike hK9, hD9⟩, hS.F ht⟩) hS.2.2 dX9_add_61
set_option maxHeartbeats 4000000 in
set_option maxRecDepth 100000 in
theorem c_X9_add_3 (l : Launch) (dC : Nat → ClassId) (dI : Nat → Nat → Nat) (a0 : Nat) (a1 : Nat) (a2 : Nat) (a3 : Nat) (a4 : Nat) (a5 : Nat) (a6 : Nat) (a7 : Nat) (a8 : Nat) (g9 : ClassId) (g10 : ClassId) (g11 : ClassId) (u12 : Nat → Int32) (g13 : ClassId) (u14 : Nat → Int32) (sz : Nat) : Met l yX9_add (Cond.code yX9_add cX9_add 5 none :: wB) { frames := 0, cells := 0, slots := 0, locals := 0 } (va_Pc [.ref a0, .int 0, .int 0, .int 0, .int 0] (pX (dC, dI) sz [(a0, .inr (9, [.ref a1, .ref a2, .ref a3, .ref a4, .ref a5, .ref a6, .ref a7, .int 0, .ref a8, .int 0, .int 2, .int 0])), (a1, .inl (g9, 2003, .inl (upd (upd (fun _ => 0) 0 0) 1 0))), (a2, .inl (g10, 2003, .inl (upd (upd (fun _ => 0) 0 0) 1 0))), (a3, .inl (g11, 2003, .inl u12)), (a4, .inl (g13, 2003, .inl u14))] [(g9, .int), (g10, .int), (g11, .int), (g13, .int)])) (va_Qv (fun _ : (Nat → Int32) × (Nat → Int32) => True) (fun z t => qX (dC, dI) [(a0, .inr (9, [.ref a1, .ref a2, .ref a3, .ref a4, .ref a5, .ref a6, .ref a7, .int 0, .ref a8, .int 0, .int 3, .int 0])), (a1, .inl (g9, 2003, .inl (upd (upd (upd (fun _ => 0) 0 0) 1 0) 2 0))), (a2, .inl (g10, 2003, .inl (upd (upd (upd (fun _ => 0) 0 0) 1 0) 2 0))), (a3, .inl (g11, 2003, .inl z.1)), (a4, .inl (g13, 2003, .inl z.2))] [(g9, .int), (g10, .int), (g11, .int), (g13, .int)] (va_A [(a0, .inr (9, [.ref a1, .ref a2, .ref a3, .ref a4, .ref a5, .ref a6, .ref a7, .int 0, .ref a8, .int 0, .int 2, .int 0])), (a1, .inl (g9, 2003, .inl (upd (upd (fun _ => 0) 0 0) 1 0))), (a2, .inl (g10, 2003, .inl (upd (upd (fun _ => 0) 0 0) 1 0))), (a3, .inl (g11, 2003, .inl u12)), (a4, .inl (g13, 2003, .inl u14))] sz) t) (va_A [(a0, .inr (9, [.ref a1, .ref a2, .ref a3, .ref a4, .ref a5, .ref a6, .ref a7, .int 0, .ref a8, .int 0, .int 2, .int 0])), (a1, .inl (g9, 2003, .inl (upd (upd (fun _ => 0) 0 0) 1 0))), (a2, .inl (g10, 2003, .inl (upd (upd (fun _ => 0) 0 0) 1 0))), (a3, .inl (g11, 2003, .inl u12)), (a4, .inl (g13, 2003, .inl u14))] sz)) 0 0 (va_A [(a0, .inr (9, [.ref a1, .ref a2, .ref a3, .ref a4, .ref a5, .ref a6, .ref a7, .int 0, .ref a8, .int 0, .int 2, .int 0])), (a1, .inl (g9, 2003, .inl (upd (upd (fun _ => 0) 0 0) 1 0))), (a2, .inl (g10, 2003, .inl (upd (upd (fun _ => 0) 0 0) 1 0))), (a3, .inl (g11, 2003, .inl u12)), (a4, .inl (g13, 2003, .inl u14))] sz) := by
  refine Met.ofW (cc := cX9_add) (maxL := 5) (ret := none) (by decide) rfl ?_
  intro p e s m args below meth c s₁ B hml hv
  obtain ⟨rfl, hsz, hP, hK, hD0, hN⟩ := hv
  have hx := B.exec
  have hb := B.bytes
  have hr := B.returns
  have hts : ∀ w ∈ wB, w.before _ s = true := fun w h => atoms_spec (ws := Cond.code yX9_add cX9_add 5 none :: wB) B.pre w (List.mem_cons_of_mem _ h)
  have hown : s.vm.findClass RX9 = some m.cls := findClass_of_methodNamed B.named
  have hlocks := B.notSynchronized
  subst hsz
  have hD := hD0.self (sz := s.heap.size)
  generalize hAe : va_A [(a0, .inr (9, [.ref a1, .ref a2, .ref a3, .ref a4, .ref a5, .ref a6, .ref a7, .int 0, .ref a8, .int 0, .int 2, .int 0])), (a1, .inl (g9, 2003, .inl (upd (upd (fun _ => 0) 0 0) 1 0))), (a2, .inl (g10, 2003, .inl (upd (upd (fun _ => 0) 0 0) 1 0))), (a3, .inl (g11, 2003, .inl u12)), (a4, .inl (g13, 2003, .inl u14))] s.heap.size = A at hD ⊢
  have hA : ∀ q : Nat, s.heap.size ≤ q → A q := fun q h => by rw [← hAe]; exact Or.inr h
  have hS : va_S A s.heap s.heap [] := va_S.rf
  have hP : va_P (dC, dI) vwCl [(a0, .inr (9, [.ref a1, .ref a2, .ref a3, .ref a4, .ref a5, .ref a6, .ref a7, .int 0, .ref a8, .int 0, .int 2, .int 0])), (a1, .inl (g9, 2003, .inl (upd (upd (fun _ => 0) 0 0) 1 0))), (a2, .inl (g10, 2003, .inl (upd (upd (fun _ => 0) 0 0) 1 0))), (a3, .inl (g11, 2003, .inl u12)), (a4, .inl (g13, 2003, .inl u14))] s.heap := hP
  have hl := lv_entry ([.ref a0, .int 0, .int 0, .int 0, .int 0]) (n := 5) (Nat.le_of_ble_eq_true rfl)
  rw [lg_entry_eq]
  generalize (lg_sl ([.ref a0, .int 0, .int 0, .int 0, .int 0]) ++ List.replicate (5 - (lg_sl ([.ref a0, .int 0, .int 0, .int 0, .int 0])).length) Slot.unset).toArray = ls at hl ⊢
  have hl : lv_has ls 5 [(0, .ref a0), (1, .int 0), (2, .int 0), (3, .int 0), (4, .int 0)] := hl
  refine lv_aload_n hx hb dX9_add_0 rfl (lv_at hl 0 rfl) ?_
  refine va_get (D := (dC, dI)) (ci := 9) (v := .int 2) (C := RX9) (T := TX9) (N := 12) hx hb hts iX9 hown hK hP 0 rfl rfl 10 (by decide) (hts _ k210) (fun _ h9 => h9) rfl dX9_add_1 ?_
  refine lv_sipush (v := 2003) hx hb dX9_add_4 (by decide) ?_
  refine lv_icmp_ge (tgt := 61) hx hb dX9_add_7 (by decide) (fun c9 => absurd c9 (by decide)) (fun _ => ?_)
  refine lv_aload_n hx hb dX9_add_10 rfl (lv_at hl 0 rfl) ?_
  refine va_get (D := (dC, dI)) (ci := 9) (v := .ref a1) (C := RX9) (T := TX9) (N := 12) hx hb hts iX9 hown hK hP 0 rfl rfl 0 (by decide) (hts _ k17) (fun _ h9 => h9) rfl dX9_add_11 ?_
  refine lv_aload_n hx hb dX9_add_14 rfl (lv_at hl 0 rfl) ?_
  refine va_get (D := (dC, dI)) (ci := 9) (v := .int 2) (C := RX9) (T := TX9) (N := 12) hx hb hts iX9 hown hK hP 0 rfl rfl 10 (by decide) (hts _ k210) (fun _ h9 => h9) rfl dX9_add_15 ?_
  refine lv_iload_n hx hb dX9_add_18 rfl (lv_at hl 1 rfl) ?_
  refine va_iast hx hb hK hP hD hS 1 0 rfl rfl (inI (by decide)) dX9_add_19 (fun H locs hP hD hS => ?_)
  have hP : va_P (dC, dI) vwCl [(a0, .inr (9, [.ref a1, .ref a2, .ref a3, .ref a4, .ref a5, .ref a6, .ref a7, .int 0, .ref a8, .int 0, .int 2, .int 0])), (a1, .inl (g9, 2003, .inl (upd (upd (upd (fun _ => 0) 0 0) 1 0) 2 0))), (a2, .inl (g10, 2003, .inl (upd (upd (fun _ => 0) 0 0) 1 0))), (a3, .inl (g11, 2003, .inl u12)), (a4, .inl (g13, 2003, .inl u14))] H := hP
  have hD : va_D A [(a0, .inr (9, [.ref a1, .ref a2, .ref a3, .ref a4, .ref a5, .ref a6, .ref a7, .int 0, .ref a8, .int 0, .int 2, .int 0])), (a1, .inl (g9, 2003, .inl (upd (upd (upd (fun _ => 0) 0 0) 1 0) 2 0))), (a2, .inl (g10, 2003, .inl (upd (upd (fun _ => 0) 0 0) 1 0))), (a3, .inl (g11, 2003, .inl u12)), (a4, .inl (g13, 2003, .inl u14))] := hD
  refine lv_aload_n hx hb dX9_add_20 rfl (lv_at hl 0 rfl) ?_
  refine va_get (D := (dC, dI)) (ci := 9) (v := .ref a2) (C := RX9) (T := TX9) (N := 12) hx hb hts iX9 hown hK hP 0 rfl rfl 1 (by decide) (hts _ k18) (fun _ h9 => h9) rfl dX9_add_21 ?_
  refine lv_aload_n hx hb dX9_add_24 rfl (lv_at hl 0 rfl) ?_
  refine va_get (D := (dC, dI)) (ci := 9) (v := .int 2) (C := RX9) (T := TX9) (N := 12) hx hb hts iX9 hown hK hP 0 rfl rfl 10 (by decide) (hts _ k210) (fun _ h9 => h9) rfl dX9_add_25 ?_
  refine lv_iload_n hx hb dX9_add_28 rfl (lv_at hl 2 rfl) ?_
  refine va_iast hx hb hK hP hD hS 2 1 rfl rfl (inI (by decide)) dX9_add_29 (fun H locs hP hD hS => ?_)
  have hP : va_P (dC, dI) vwCl [(a0, .inr (9, [.ref a1, .ref a2, .ref a3, .ref a4, .ref a5, .ref a6, .ref a7, .int 0, .ref a8, .int 0, .int 2, .int 0])), (a1, .inl (g9, 2003, .inl (upd (upd (upd (fun _ => 0) 0 0) 1 0) 2 0))), (a2, .inl (g10, 2003, .inl (upd (upd (upd (fun _ => 0) 0 0) 1 0) 2 0))), (a3, .inl (g11, 2003, .inl u12)), (a4, .inl (g13, 2003, .inl u14))] H := hP
  have hD : va_D A [(a0, .inr (9, [.ref a1, .ref a2, .ref a3, .ref a4, .ref a5, .ref a6, .ref a7, .int 0, .ref a8, .int 0, .int 2, .int 0])), (a1, .inl (g9, 2003, .inl (upd (upd (upd (fun _ => 0) 0 0) 1 0) 2 0))), (a2, .inl (g10, 2003, .inl (upd (upd (upd (fun _ => 0) 0 0) 1 0) 2 0))), (a3, .inl (g11, 2003, .inl u12)), (a4, .inl (g13, 2003, .inl u14))] := hD
  refine lv_aload_n hx hb dX9_add_30 rfl (lv_at hl 0 rfl) ?_
  refine va_get (D := (dC, dI)) (ci := 9) (v := .ref a3) (C := RX9) (T := TX9) (N := 12) hx hb hts iX9 hown hK hP 0 rfl rfl 2 (by decide) (hts _ k19) (fun _ h9 => h9) rfl dX9_add_31 ?_
  refine lv_aload_n hx hb dX9_add_34 rfl (lv_at hl 0 rfl) ?_
  refine va_get (D := (dC, dI)) (ci := 9) (v := .int 2) (C := RX9) (T := TX9) (N := 12) hx hb hts iX9 hown hK hP 0 rfl rfl 10 (by decide) (hts _ k210) (fun _ h9 => h9) rfl dX9_add_35 ?_
  refine lv_iload_n hx hb dX9_add_38 rfl (lv_at hl 3 rfl) ?_
  refine ia_any hx hb hK hP hD hS 3 2 rfl rfl (inI (by decide)) dX9_add_39 (fun f1 H locs hP hD hS => ?_)
  have hP : va_P (dC, dI) vwCl [(a0, .inr (9, [.ref a1, .ref a2, .ref a3, .ref a4, .ref a5, .ref a6, .ref a7, .int 0, .ref a8, .int 0, .int 2, .int 0])), (a1, .inl (g9, 2003, .inl (upd (upd (upd (fun _ => 0) 0 0) 1 0) 2 0))), (a2, .inl (g10, 2003, .inl (upd (upd (upd (fun _ => 0) 0 0) 1 0) 2 0))), (a3, .inl (g11, 2003, .inl f1)), (a4, .inl (g13, 2003, .inl u14))] H := hP
  have hD : va_D A [(a0, .inr (9, [.ref a1, .ref a2, .ref a3, .ref a4, .ref a5, .ref a6, .ref a7, .int 0, .ref a8, .int 0, .int 2, .int 0])), (a1, .inl (g9, 2003, .inl (upd (upd (upd (fun _ => 0) 0 0) 1 0) 2 0))), (a2, .inl (g10, 2003, .inl (upd (upd (upd (fun _ => 0) 0 0) 1 0) 2 0))), (a3, .inl (g11, 2003, .inl f1)), (a4, .inl (g13, 2003, .inl u14))] := hD
  refine lv_aload_n hx hb dX9_add_40 rfl (lv_at hl 0 rfl) ?_
  refine va_get (D := (dC, dI)) (ci := 9) (v := .ref a4) (C := RX9) (T := TX9) (N := 12) hx hb hts iX9 hown hK hP 0 rfl rfl 3 (by decide) (hts _ k20) (fun _ h9 => h9) rfl dX9_add_41 ?_
  refine lv_aload_n hx hb dX9_add_44 rfl (lv_at hl 0 rfl) ?_
  refine va_get (D := (dC, dI)) (ci := 9) (v := .int 2) (C := RX9) (T := TX9) (N := 12) hx hb hts iX9 hown hK hP 0 rfl rfl 10 (by decide) (hts _ k210) (fun _ h9 => h9) rfl dX9_add_45 ?_
  refine lv_iload hx hb dX9_add_48 (lv_at hl 4 rfl) ?_
  refine ia_any hx hb hK hP hD hS 4 3 rfl rfl (inI (by decide)) dX9_add_50 (fun f2 H locs hP hD hS => ?_)
  have hP : va_P (dC, dI) vwCl [(a0, .inr (9, [.ref a1, .ref a2, .ref a3, .ref a4, .ref a5, .ref a6, .ref a7, .int 0, .ref a8, .int 0, .int 2, .int 0])), (a1, .inl (g9, 2003, .inl (upd (upd (upd (fun _ => 0) 0 0) 1 0) 2 0))), (a2, .inl (g10, 2003, .inl (upd (upd (upd (fun _ => 0) 0 0) 1 0) 2 0))), (a3, .inl (g11, 2003, .inl f1)), (a4, .inl (g13, 2003, .inl f2))] H := hP
  have hD : va_D A [(a0, .inr (9, [.ref a1, .ref a2, .ref a3, .ref a4, .ref a5, .ref a6, .ref a7, .int 0, .ref a8, .int 0, .int 2, .int 0])), (a1, .inl (g9, 2003, .inl (upd (upd (upd (fun _ => 0) 0 0) 1 0) 2 0))), (a2, .inl (g10, 2003, .inl (upd (upd (upd (fun _ => 0) 0 0) 1 0) 2 0))), (a3, .inl (g11, 2003, .inl f1)), (a4, .inl (g13, 2003, .inl f2))] := hD
  refine lv_aload_n hx hb dX9_add_51 rfl (lv_at hl 0 rfl) ?_
  refine lv_dup hx hb dX9_add_52 rfl ?_
  refine va_get (D := (dC, dI)) (ci := 9) (v := .int 2) (C := RX9) (T := TX9) (N := 12) hx hb hts iX9 hown hK hP 0 rfl rfl 10 (by decide) (hts _ k210) (fun _ h9 => h9) rfl dX9_add_53 ?_
  refine lv_iconst (v := 1) hx hb dX9_add_56 (by decide) ?_
  refine lv_iadd hx hb dX9_add_57 ?_
  refine lv_is 3 (by decide) ?_
  refine va_put (D := (dC, dI)) (ci := 9) (v := .int 3) (ty := .int) (C := RX9) (T := TX9) (N := 12) hx hb hts iX9 tyX9 tyX9_ok nmX9 hown hK hP hD hS 0 rfl rfl 10 (by decide) (hts _ k210) (fun _ h9 => h9) rfl (by decide +kernel) rfl rfl (Nat.le_of_ble_eq_true rfl) dX9_add_58 (fun H locs hP hD hS => ?_)
  have hP : va_P (dC, dI) vwCl [(a0, .inr (9, [.ref a1, .ref a2, .ref a3, .ref a4, .ref a5, .ref a6, .ref a7, .int 0, .ref a8, .int 0, .int 3, .int 0])), (a1, .inl (g9, 2003, .inl (upd (upd (upd (fun _ => 0) 0 0) 1 0) 2 0))), (a2, .inl (g10, 2003, .inl (upd (upd (upd (fun _ => 0) 0 0) 1 0) 2 0))), (a3, .inl (g11, 2003, .inl f1)), (a4, .inl (g13, 2003, .inl f2))] H := hP
  have hD : va_D A [(a0, .inr (9, [.ref a1, .ref a2, .ref a3, .ref a4, .ref a5, .ref a6, .ref a7, .int 0, .ref a8, .int 0, .int 3, .int 0])), (a1, .inl (g9, 2003, .inl (upd (upd (upd (fun _ => 0) 0 0) 1 0) 2 0))), (a2, .inl (g10, 2003, .inl (upd (upd (upd (fun _ => 0) 0 0) 1 0) 2 0))), (a3, .inl (g11, 2003, .inl f1)), (a4, .inl (g13, 2003, .inl f2))] := hD
  have hP9 := hP.sub (ws' := [(a0, .inr (9, [.ref a1, .ref a2, .ref a3, .ref a4, .ref a5, .ref a6, .ref a7, .int 0, .ref a8, .int 0, .int 3, .int 0])), (a1, .inl (g9, 2003, .inl (upd (upd (upd (fun _ => 0) 0 0) 1 0) 2 0))), (a2, .inl (g10, 2003, .inl (upd (upd (upd (fun _ => 0) 0 0) 1 0) 2 0))), (a3, .inl (g11, 2003, .inl f1)), (a4, .inl (g13, 2003, .inl f2))]) [0, 1, 2, 3, 4] rfl
  have hD9 := hD.sub (ws' := [(a0, .inr (9, [.ref a1, .ref a2, .ref a3, .ref a4, .ref a5, .ref a6, .ref a7, .int 0, .ref a8, .int 0, .int 3, .int 0])), (a1, .inl (g9, 2003, .inl (upd (upd (upd (fun _ => 0) 0 0) 1 0) 2 0))), (a2, .inl (g10, 2003, .inl (upd (upd (upd (fun _ => 0) 0 0) 1 0) 2 0))), (a3, .inl (g11, 2003, .inl f1)), (a4, .inl (g13, 2003, .inl f2))]) [0, 1, 2, 3, 4] (by decide) rfl
  have hK9 := hK.sub (tys' := [(g9, .int), (g10, .int), (g11, .int), (g13, .int)]) [0, 1, 2, 3] rfl
  refine W.widen (k := 0) (n := 0) (Nat.le_of_ble_eq_true rfl) (Nat.le_of_ble_eq_true rfl) ?_
  exact W.vret hx hb hr (fun t ht hW => ⟨⟨(f1, f2), rfl, trivial, by rw [ht]; exact hP9, va_K.moved hW.alike hK9, hD9⟩, hS.F ht⟩) hS.2.2 dX9_add_61
set_option maxHeartbeats 4000000 in
set_option maxRecDepth 100000 in
theorem c_X9_readAll_1 (l : Launch) (dC : Nat → ClassId) (dI : Nat → Nat → Nat) (a0 : Nat) (a1 : Nat) (a2 : Nat) (a3 : Nat) (a4 : Nat) (a5 : Nat) (a6 : Nat) (a7 : Nat) (a8 : Nat) (a9 : Nat) (g10 : ClassId) (g11 : ClassId) (g12 : ClassId) (g13 : ClassId) (g14 : ClassId) (u15 : Nat → Int32) (sz : Nat) : Met l yX9_readAll (Cond.code yX9_readAll cX9_readAll 5 none :: wB) { frames := 1, cells := 0, slots := 0, locals := 40 } (va_Pc [.ref a0, .ref a1, .int 0] (pX (dC, dI) sz [(a0, .inr (9, [.ref a2, .ref a3, .ref a4, .ref a5, .ref a6, .ref a7, .ref a8, .int 0, .ref a9, .int 0, .int 0, .int 0])), (a2, .inl (g10, 2003, .inl (fun _ => 0))), (a3, .inl (g11, 2003, .inl (fun _ => 0))), (a4, .inl (g12, 2003, .inl (fun _ => 0))), (a5, .inl (g13, 2003, .inl (fun _ => 0))), (a1, .inl (g14, 2000, .inl u15))] [(g10, .int), (g11, .int), (g12, .int), (g13, .int), (g14, .byte)])) (va_Qv (fun _ : (Nat → Int32) × (Nat → Int32) => True) (fun z t => qX (dC, dI) [(a1, .inl (g14, 2000, .inl u15)), (a0, .inr (9, [.ref a2, .ref a3, .ref a4, .ref a5, .ref a6, .ref a7, .ref a8, .int 0, .ref a1, .int 0, .int 3, .int 0])), (a2, .inl (g10, 2003, .inl (upd (upd (upd (fun _ => 0) 0 0) 1 0) 2 0))), (a3, .inl (g11, 2003, .inl (upd (upd (upd (fun _ => 0) 0 0) 1 0) 2 0))), (a4, .inl (g12, 2003, .inl z.1)), (a5, .inl (g13, 2003, .inl z.2))] [(g10, .int), (g11, .int), (g12, .int), (g13, .int), (g14, .byte)] (va_A [(a0, .inr (9, [.ref a2, .ref a3, .ref a4, .ref a5, .ref a6, .ref a7, .ref a8, .int 0, .ref a9, .int 0, .int 0, .int 0])), (a2, .inl (g10, 2003, .inl (fun _ => 0))), (a3, .inl (g11, 2003, .inl (fun _ => 0))), (a4, .inl (g12, 2003, .inl (fun _ => 0))), (a5, .inl (g13, 2003, .inl (fun _ => 0))), (a1, .inl (g14, 2000, .inl u15))] sz) t) (va_A [(a0, .inr (9, [.ref a2, .ref a3, .ref a4, .ref a5, .ref a6, .ref a7, .ref a8, .int 0, .ref a9, .int 0, .int 0, .int 0])), (a2, .inl (g10, 2003, .inl (fun _ => 0))), (a3, .inl (g11, 2003, .inl (fun _ => 0))), (a4, .inl (g12, 2003, .inl (fun _ => 0))), (a5, .inl (g13, 2003, .inl (fun _ => 0))), (a1, .inl (g14, 2000, .inl u15))] sz)) 0 0 (va_A [(a0, .inr (9, [.ref a2, .ref a3, .ref a4, .ref a5, .ref a6, .ref a7, .ref a8, .int 0, .ref a9, .int 0, .int 0, .int 0])), (a2, .inl (g10, 2003, .inl (fun _ => 0))), (a3, .inl (g11, 2003, .inl (fun _ => 0))), (a4, .inl (g12, 2003, .inl (fun _ => 0))), (a5, .inl (g13, 2003, .inl (fun _ => 0))), (a1, .inl (g14, 2000, .inl u15))] sz) := by
  refine Met.ofW (cc := cX9_readAll) (maxL := 5) (ret := none) (by decide) rfl ?_
  intro p e s m args below meth c s₁ B hml hv
  obtain ⟨rfl, hsz, hP, hK, hD0, hN⟩ := hv
  have hx := B.exec
  have hb := B.bytes
  have hr := B.returns
  have hts : ∀ w ∈ wB, w.before _ s = true := fun w h => atoms_spec (ws := Cond.code yX9_readAll cX9_readAll 5 none :: wB) B.pre w (List.mem_cons_of_mem _ h)
  have hown : s.vm.findClass RX9 = some m.cls := findClass_of_methodNamed B.named
  have hlocks := B.notSynchronized
  subst hsz
  have hD := hD0.self (sz := s.heap.size)
  generalize hAe : va_A [(a0, .inr (9, [.ref a2, .ref a3, .ref a4, .ref a5, .ref a6, .ref a7, .ref a8, .int 0, .ref a9, .int 0, .int 0, .int 0])), (a2, .inl (g10, 2003, .inl (fun _ => 0))), (a3, .inl (g11, 2003, .inl (fun _ => 0))), (a4, .inl (g12, 2003, .inl (fun _ => 0))), (a5, .inl (g13, 2003, .inl (fun _ => 0))), (a1, .inl (g14, 2000, .inl u15))] s.heap.size = A at hD ⊢
  have hA : ∀ q : Nat, s.heap.size ≤ q → A q := fun q h => by rw [← hAe]; exact Or.inr h
  have hS : va_S A s.heap s.heap [] := va_S.rf
  have hP : va_P (dC, dI) vwCl [(a0, .inr (9, [.ref a2, .ref a3, .ref a4, .ref a5, .ref a6, .ref a7, .ref a8, .int 0, .ref a9, .int 0, .int 0, .int 0])), (a2, .inl (g10, 2003, .inl (fun _ => 0))), (a3, .inl (g11, 2003, .inl (fun _ => 0))), (a4, .inl (g12, 2003, .inl (fun _ => 0))), (a5, .inl (g13, 2003, .inl (fun _ => 0))), (a1, .inl (g14, 2000, .inl u15))] s.heap := hP
  have hl := lv_entry ([.ref a0, .ref a1, .int 0]) (n := 5) (Nat.le_of_ble_eq_true rfl)
  rw [lg_entry_eq]
  generalize (lg_sl ([.ref a0, .ref a1, .int 0]) ++ List.replicate (5 - (lg_sl ([.ref a0, .ref a1, .int 0])).length) Slot.unset).toArray = ls at hl ⊢
  have hl : lv_has ls 5 [(0, .ref a0), (1, .ref a1), (2, .int 0)] := hl
  refine lv_aload_n hx hb dX9_readAll_0 rfl (lv_at hl 0 rfl) ?_
  refine lv_aload_n hx hb dX9_readAll_1 rfl (lv_at hl 1 rfl) ?_
  refine va_put (D := (dC, dI)) (ci := 9) (v := .ref a1) (ty := (.array .byte)) (C := RX9) (T := TX9) (N := 12) hx hb hts iX9 tyX9 tyX9_ok nmX9 hown hK hP hD hS 0 rfl rfl 8 (by decide) (hts _ k24) (fun _ h9 => h9) rfl (by decide +kernel) rfl rfl (Nat.le_of_ble_eq_true rfl) dX9_readAll_2 (fun H locs hP hD hS => ?_)
  have hP : va_P (dC, dI) vwCl [(a0, .inr (9, [.ref a2, .ref a3, .ref a4, .ref a5, .ref a6, .ref a7, .ref a8, .int 0, .ref a1, .int 0, .int 0, .int 0])), (a2, .inl (g10, 2003, .inl (fun _ => 0))), (a3, .inl (g11, 2003, .inl (fun _ => 0))), (a4, .inl (g12, 2003, .inl (fun _ => 0))), (a5, .inl (g13, 2003, .inl (fun _ => 0))), (a1, .inl (g14, 2000, .inl u15))] H := hP
  have hD : va_D A [(a0, .inr (9, [.ref a2, .ref a3, .ref a4, .ref a5, .ref a6, .ref a7, .ref a8, .int 0, .ref a1, .int 0, .int 0, .int 0])), (a2, .inl (g10, 2003, .inl (fun _ => 0))), (a3, .inl (g11, 2003, .inl (fun _ => 0))), (a4, .inl (g12, 2003, .inl (fun _ => 0))), (a5, .inl (g13, 2003, .inl (fun _ => 0))), (a1, .inl (g14, 2000, .inl u15))] := hD
  refine lv_aload_n hx hb dX9_readAll_5 rfl (lv_at hl 0 rfl) ?_
  refine lv_iload_n hx hb dX9_readAll_6 rfl (lv_at hl 2 rfl) ?_
  refine lv_aload_n hx hb dX9_readAll_7 rfl (lv_at hl 1 rfl) ?_
  refine va_alen (v := 2000) hx hb hK hP 5 4 rfl rfl (show Int32.ofNat 2000 = 2000 from by decide) dX9_readAll_8 ?_
  refine lv_sipush (v := 2000) hx hb dX9_readAll_9 (by decide) ?_
  refine va_mmin hx hb (hml.trans hl.1.symm) hown (hts _ k208) (hts _ k189) (hts _ k190) (hts _ k191) (Nat.le_of_ble_eq_true rfl) (Nat.le_of_ble_eq_true rfl) (Nat.le_of_ble_eq_true rfl) (Nat.le_of_ble_eq_true rfl) dX9_readAll_12 ?_
  refine lv_is 2000 (by decide) ?_
  refine va_mmin hx hb (hml.trans hl.1.symm) hown (hts _ k208) (hts _ k189) (hts _ k190) (hts _ k191) (Nat.le_of_ble_eq_true rfl) (Nat.le_of_ble_eq_true rfl) (Nat.le_of_ble_eq_true rfl) (Nat.le_of_ble_eq_true rfl) dX9_readAll_15 ?_
  refine lv_is 0 (by decide) ?_
  refine va_put (D := (dC, dI)) (ci := 9) (v := .int 0) (ty := .int) (C := RX9) (T := TX9) (N := 12) hx hb hts iX9 tyX9 tyX9_ok nmX9 hown hK hP hD hS 0 rfl rfl 9 (by decide) (hts _ k209) (fun _ h9 => h9) rfl (by decide +kernel) rfl rfl (Nat.le_of_ble_eq_true rfl) dX9_readAll_18 (fun H locs hP hD hS => ?_)
  have hP : va_P (dC, dI) vwCl [(a0, .inr (9, [.ref a2, .ref a3, .ref a4, .ref a5, .ref a6, .ref a7, .ref a8, .int 0, .ref a1, .int 0, .int 0, .int 0])), (a2, .inl (g10, 2003, .inl (fun _ => 0))), (a3, .inl (g11, 2003, .inl (fun _ => 0))), (a4, .inl (g12, 2003, .inl (fun _ => 0))), (a5, .inl (g13, 2003, .inl (fun _ => 0))), (a1, .inl (g14, 2000, .inl u15))] H := hP
  have hD : va_D A [(a0, .inr (9, [.ref a2, .ref a3, .ref a4, .ref a5, .ref a6, .ref a7, .ref a8, .int 0, .ref a1, .int 0, .int 0, .int 0])), (a2, .inl (g10, 2003, .inl (fun _ => 0))), (a3, .inl (g11, 2003, .inl (fun _ => 0))), (a4, .inl (g12, 2003, .inl (fun _ => 0))), (a5, .inl (g13, 2003, .inl (fun _ => 0))), (a1, .inl (g14, 2000, .inl u15))] := hD
  refine lv_aload_n hx hb dX9_readAll_21 rfl (lv_at hl 0 rfl) ?_
  refine lv_iconst (v := 0) hx hb dX9_readAll_22 (by decide) ?_
  refine va_put (D := (dC, dI)) (ci := 9) (v := .int 0) (ty := .int) (C := RX9) (T := TX9) (N := 12) hx hb hts iX9 tyX9 tyX9_ok nmX9 hown hK hP hD hS 0 rfl rfl 10 (by decide) (hts _ k210) (fun _ h9 => h9) rfl (by decide +kernel) rfl rfl (Nat.le_of_ble_eq_true rfl) dX9_readAll_23 (fun H locs hP hD hS => ?_)
  have hP : va_P (dC, dI) vwCl [(a0, .inr (9, [.ref a2, .ref a3, .ref a4, .ref a5, .ref a6, .ref a7, .ref a8, .int 0, .ref a1, .int 0, .int 0, .int 0])), (a2, .inl (g10, 2003, .inl (fun _ => 0))), (a3, .inl (g11, 2003, .inl (fun _ => 0))), (a4, .inl (g12, 2003, .inl (fun _ => 0))), (a5, .inl (g13, 2003, .inl (fun _ => 0))), (a1, .inl (g14, 2000, .inl u15))] H := hP
  have hD : va_D A [(a0, .inr (9, [.ref a2, .ref a3, .ref a4, .ref a5, .ref a6, .ref a7, .ref a8, .int 0, .ref a1, .int 0, .int 0, .int 0])), (a2, .inl (g10, 2003, .inl (fun _ => 0))), (a3, .inl (g11, 2003, .inl (fun _ => 0))), (a4, .inl (g12, 2003, .inl (fun _ => 0))), (a5, .inl (g13, 2003, .inl (fun _ => 0))), (a1, .inl (g14, 2000, .inl u15))] := hD
  refine lv_aload_n hx hb dX9_readAll_26 rfl (lv_at hl 0 rfl) ?_
  refine lv_iconst (v := 0) hx hb dX9_readAll_27 (by decide) ?_
  refine va_put (D := (dC, dI)) (ci := 9) (v := .int 0) (ty := .int) (C := RX9) (T := TX9) (N := 12) hx hb hts iX9 tyX9 tyX9_ok nmX9 hown hK hP hD hS 0 rfl rfl 11 (by decide) (hts _ k211) (fun _ h9 => h9) rfl (by decide +kernel) rfl rfl (Nat.le_of_ble_eq_true rfl) dX9_readAll_28 (fun H locs hP hD hS => ?_)
  have hP : va_P (dC, dI) vwCl [(a0, .inr (9, [.ref a2, .ref a3, .ref a4, .ref a5, .ref a6, .ref a7, .ref a8, .int 0, .ref a1, .int 0, .int 0, .int 0])), (a2, .inl (g10, 2003, .inl (fun _ => 0))), (a3, .inl (g11, 2003, .inl (fun _ => 0))), (a4, .inl (g12, 2003, .inl (fun _ => 0))), (a5, .inl (g13, 2003, .inl (fun _ => 0))), (a1, .inl (g14, 2000, .inl u15))] H := hP
  have hD : va_D A [(a0, .inr (9, [.ref a2, .ref a3, .ref a4, .ref a5, .ref a6, .ref a7, .ref a8, .int 0, .ref a1, .int 0, .int 0, .int 0])), (a2, .inl (g10, 2003, .inl (fun _ => 0))), (a3, .inl (g11, 2003, .inl (fun _ => 0))), (a4, .inl (g12, 2003, .inl (fun _ => 0))), (a5, .inl (g13, 2003, .inl (fun _ => 0))), (a1, .inl (g14, 2000, .inl u15))] := hD
  refine lv_aload_n hx hb dX9_readAll_31 rfl (lv_at hl 0 rfl) ?_
  refine lv_iconst (v := 0) hx hb dX9_readAll_32 (by decide) ?_
  refine va_put (D := (dC, dI)) (ci := 9) (v := .int 0) (ty := .int) (C := RX9) (T := TX9) (N := 12) hx hb hts iX9 tyX9 tyX9_ok nmX9 hown hK hP hD hS 0 rfl rfl 7 (by decide) (hts _ k212) (fun _ h9 => h9) rfl (by decide +kernel) rfl rfl (Nat.le_of_ble_eq_true rfl) dX9_readAll_33 (fun H locs hP hD hS => ?_)
  have hP : va_P (dC, dI) vwCl [(a0, .inr (9, [.ref a2, .ref a3, .ref a4, .ref a5, .ref a6, .ref a7, .ref a8, .int 0, .ref a1, .int 0, .int 0, .int 0])), (a2, .inl (g10, 2003, .inl (fun _ => 0))), (a3, .inl (g11, 2003, .inl (fun _ => 0))), (a4, .inl (g12, 2003, .inl (fun _ => 0))), (a5, .inl (g13, 2003, .inl (fun _ => 0))), (a1, .inl (g14, 2000, .inl u15))] H := hP
  have hD : va_D A [(a0, .inr (9, [.ref a2, .ref a3, .ref a4, .ref a5, .ref a6, .ref a7, .ref a8, .int 0, .ref a1, .int 0, .int 0, .int 0])), (a2, .inl (g10, 2003, .inl (fun _ => 0))), (a3, .inl (g11, 2003, .inl (fun _ => 0))), (a4, .inl (g12, 2003, .inl (fun _ => 0))), (a5, .inl (g13, 2003, .inl (fun _ => 0))), (a1, .inl (g14, 2000, .inl u15))] := hD
  refine lv_iconst (v := 0) hx hb dX9_readAll_36 (by decide) ?_
  refine lv_istore_n (lv' := [(3, .int 0), (0, .ref a0), (1, .ref a1), (2, .int 0)]) hx hb dX9_readAll_37 rfl hl (by decide) rfl (fun ls hl => ?_)
  refine lv_iload_n hx hb dX9_readAll_38 rfl (lv_at hl 0 rfl) ?_
  refine lv_aload_n hx hb dX9_readAll_39 rfl (lv_at hl 1 rfl) ?_
  refine va_get (D := (dC, dI)) (ci := 9) (v := .int 0) (C := RX9) (T := TX9) (N := 12) hx hb hts iX9 hown hK hP 0 rfl rfl 9 (by decide) (hts _ k209) (fun _ h9 => h9) rfl dX9_readAll_40 ?_
  refine lv_icmp_ge (tgt := 95) hx hb dX9_readAll_43 (by decide) (fun _ => ?_) (fun c9 => absurd c9 (by decide))
  refine lv_iconst (v := 0) hx hb dX9_readAll_95 (by decide) ?_
  refine lv_istore (lv' := [(4, .int 0), (3, .int 0), (0, .ref a0), (1, .ref a1), (2, .int 0)]) hx hb dX9_readAll_96 hl (by decide) rfl (fun ls hl => ?_)
  refine lv_iload hx hb dX9_readAll_98 (lv_at hl 0 rfl) ?_
  refine lv_iconst (v := 3) hx hb dX9_readAll_100 (by decide) ?_
  refine lv_icmp_ge (tgt := 121) hx hb dX9_readAll_101 (by decide) (fun c9 => absurd c9 (by decide)) (fun _ => ?_)
  refine lv_aload_n hx hb dX9_readAll_104 rfl (lv_at hl 2 rfl) ?_
  refine lv_iconst (v := 0) hx hb dX9_readAll_105 (by decide) ?_
  refine lv_aload_n hx hb dX9_readAll_106 rfl (lv_at hl 2 rfl) ?_
  refine va_get (D := (dC, dI)) (ci := 9) (v := .int 0) (C := RX9) (T := TX9) (N := 12) hx hb hts iX9 hown hK hP 0 rfl rfl 9 (by decide) (hts _ k209) (fun _ h9 => h9) rfl dX9_readAll_107 ?_
  refine lv_iconst (v := 0) hx hb dX9_readAll_110 (by decide) ?_
  refine lv_iconst (v := 0) hx hb dX9_readAll_111 (by decide) ?_
  refine xV_v (n := 4) (As := [.int 0, .int 0, .int 0, .int 0]) (rest := []) (wc := [(a0, .inr (9, [.ref a2, .ref a3, .ref a4, .ref a5, .ref a6, .ref a7, .ref a8, .int 0, .ref a1, .int 0, .int 0, .int 0])), (a2, .inl (g10, 2003, .inl (fun _ => 0))), (a3, .inl (g11, 2003, .inl (fun _ => 0))), (a4, .inl (g12, 2003, .inl (fun _ => 0))), (a5, .inl (g13, 2003, .inl (fun _ => 0)))]) (wr := [(a1, .inl (g14, 2000, .inl u15))]) (tc := [(g10, .int), (g11, .int), (g12, .int), (g13, .int)]) ⟨hx, hb, hml, hown, hts⟩ (c_X9_add_1 l dC dI a0 a2 a3 a4 a5 a6 a7 a8 a1 g10 g11 g12 g13 H.size) ⟨k213, k214, k215, k14, k216⟩ (by decide +kernel) rfl ⟨Nat.le_of_ble_eq_true rfl, Nat.le_of_ble_eq_true rfl⟩ ⟨Nat.le_of_ble_eq_true rfl, Nat.le_of_ble_eq_true rfl⟩ hK hP hD hS hA hN [0, 1, 2, 3, 4] [5] [0, 1, 2, 3] rfl rfl (by decide) (by decide) rfl 0 rfl rfl hl.1 rfl (Nat.le_of_ble_eq_true rfl) dX9_readAll_112 (fun z H locs hw hK hP hD hS => ?_)
  obtain ⟨f1, f2⟩ := z
  have hK : va_K (dC, dI) vwCl [(g10, .int), (g11, .int), (g12, .int), (g13, .int), (g14, .byte), (g10, .int), (g11, .int), (g12, .int), (g13, .int)] s := hK
  have hP : va_P (dC, dI) vwCl [(a1, .inl (g14, 2000, .inl u15)), (a0, .inr (9, [.ref a2, .ref a3, .ref a4, .ref a5, .ref a6, .ref a7, .ref a8, .int 0, .ref a1, .int 0, .int 1, .int 0])), (a2, .inl (g10, 2003, .inl (upd (fun _ => 0) 0 0))), (a3, .inl (g11, 2003, .inl (upd (fun _ => 0) 0 0))), (a4, .inl (g12, 2003, .inl f1)), (a5, .inl (g13, 2003, .inl f2))] H := hP
  have hD : va_D A [(a1, .inl (g14, 2000, .inl u15)), (a0, .inr (9, [.ref a2, .ref a3, .ref a4, .ref a5, .ref a6, .ref a7, .ref a8, .int 0, .ref a1, .int 0, .int 1, .int 0])), (a2, .inl (g10, 2003, .inl (upd (fun _ => 0) 0 0))), (a3, .inl (g11, 2003, .inl (upd (fun _ => 0) 0 0))), (a4, .inl (g12, 2003, .inl f1)), (a5, .inl (g13, 2003, .inl f2))] := hD
  refine W.widen (k := 0) (n := 0) (Nat.le_of_ble_eq_true rfl) (Nat.le_of_ble_eq_true rfl) ?_
  have hK := hK.sub (tys' := [(g10, .int), (g11, .int), (g12, .int), (g13, .int), (g14, .byte)]) [0, 1, 2, 3, 4] rfl
  refine lv_iinc (v := 1) (lv' := [(4, .int 1), (3, .int 0), (0, .ref a0), (1, .ref a1), (2, .int 0)]) hx hb dX9_readAll_115 hl (k := 0) rfl (by decide) (by decide) rfl (fun ls hl => ?_)
  refine lv_goto (tgt := 98) hx hb dX9_readAll_118 (by decide) ?_
  refine lv_iload hx hb dX9_readAll_98 (lv_at hl 0 rfl) ?_
  refine lv_iconst (v := 3) hx hb dX9_readAll_100 (by decide) ?_
  refine lv_icmp_ge (tgt := 121) hx hb dX9_readAll_101 (by decide) (fun c9 => absurd c9 (by decide)) (fun _ => ?_)
  refine lv_aload_n hx hb dX9_readAll_104 rfl (lv_at hl 2 rfl) ?_
  refine lv_iconst (v := 0) hx hb dX9_readAll_105 (by decide) ?_
  refine lv_aload_n hx hb dX9_readAll_106 rfl (lv_at hl 2 rfl) ?_
  refine va_get (D := (dC, dI)) (ci := 9) (v := .int 0) (C := RX9) (T := TX9) (N := 12) hx hb hts iX9 hown hK hP 1 rfl rfl 9 (by decide) (hts _ k209) (fun _ h9 => h9) rfl dX9_readAll_107 ?_
  refine lv_iconst (v := 0) hx hb dX9_readAll_110 (by decide) ?_
  refine lv_iconst (v := 0) hx hb dX9_readAll_111 (by decide) ?_
  refine xV_v (n := 4) (As := [.int 0, .int 0, .int 0, .int 0]) (rest := []) (wc := [(a0, .inr (9, [.ref a2, .ref a3, .ref a4, .ref a5, .ref a6, .ref a7, .ref a8, .int 0, .ref a1, .int 0, .int 1, .int 0])), (a2, .inl (g10, 2003, .inl (upd (fun _ => 0) 0 0))), (a3, .inl (g11, 2003, .inl (upd (fun _ => 0) 0 0))), (a4, .inl (g12, 2003, .inl f1)), (a5, .inl (g13, 2003, .inl f2))]) (wr := [(a1, .inl (g14, 2000, .inl u15))]) (tc := [(g10, .int), (g11, .int), (g12, .int), (g13, .int)]) ⟨hx, hb, hml, hown, hts⟩ (c_X9_add_2 l dC dI a0 a2 a3 a4 a5 a6 a7 a8 a1 g10 g11 g12 f1 g13 f2 H.size) ⟨k213, k214, k215, k14, k216⟩ (by decide +kernel) rfl ⟨Nat.le_of_ble_eq_true rfl, Nat.le_of_ble_eq_true rfl⟩ ⟨Nat.le_of_ble_eq_true rfl, Nat.le_of_ble_eq_true rfl⟩ hK hP hD hS hA hN [1, 2, 3, 4, 5] [0] [0, 1, 2, 3] rfl rfl (by decide) (by decide) rfl 0 rfl rfl hl.1 rfl (Nat.le_of_ble_eq_true rfl) dX9_readAll_112 (fun z H locs hw hK hP hD hS => ?_)
  obtain ⟨f3, f4⟩ := z
  have hK : va_K (dC, dI) vwCl [(g10, .int), (g11, .int), (g12, .int), (g13, .int), (g14, .byte), (g10, .int), (g11, .int), (g12, .int), (g13, .int)] s := hK
  have hP : va_P (dC, dI) vwCl [(a1, .inl (g14, 2000, .inl u15)), (a0, .inr (9, [.ref a2, .ref a3, .ref a4, .ref a5, .ref a6, .ref a7, .ref a8, .int 0, .ref a1, .int 0, .int 2, .int 0])), (a2, .inl (g10, 2003, .inl (upd (upd (fun _ => 0) 0 0) 1 0))), (a3, .inl (g11, 2003, .inl (upd (upd (fun _ => 0) 0 0) 1 0))), (a4, .inl (g12, 2003, .inl f3)), (a5, .inl (g13, 2003, .inl f4))] H := hP
  have hD : va_D A [(a1, .inl (g14, 2000, .inl u15)), (a0, .inr (9, [.ref a2, .ref a3, .ref a4, .ref a5, .ref a6, .ref a7, .ref a8, .int 0, .ref a1, .int 0, .int 2, .int 0])), (a2, .inl (g10, 2003, .inl (upd (upd (fun _ => 0) 0 0) 1 0))), (a3, .inl (g11, 2003, .inl (upd (upd (fun _ => 0) 0 0) 1 0))), (a4, .inl (g12, 2003, .inl f3)), (a5, .inl (g13, 2003, .inl f4))] := hD
  refine W.widen (k := 0) (n := 0) (Nat.le_of_ble_eq_true rfl) (Nat.le_of_ble_eq_true rfl) ?_
  have hK := hK.sub (tys' := [(g10, .int), (g11, .int), (g12, .int), (g13, .int), (g14, .byte)]) [0, 1, 2, 3, 4] rfl
  refine lv_iinc (v := 2) (lv' := [(4, .int 2), (3, .int 0), (0, .ref a0), (1, .ref a1), (2, .int 0)]) hx hb dX9_readAll_115 hl (k := 0) rfl (by decide) (by decide) rfl (fun ls hl => ?_)
  refine lv_goto (tgt := 98) hx hb dX9_readAll_118 (by decide) ?_
  refine lv_iload hx hb dX9_readAll_98 (lv_at hl 0 rfl) ?_
  refine lv_iconst (v := 3) hx hb dX9_readAll_100 (by decide) ?_
  refine lv_icmp_ge (tgt := 121) hx hb dX9_readAll_101 (by decide) (fun c9 => absurd c9 (by decide)) (fun _ => ?_)
  refine lv_aload_n hx hb dX9_readAll_104 rfl (lv_at hl 2 rfl) ?_
  refine lv_iconst (v := 0) hx hb dX9_readAll_105 (by decide) ?_
  refine lv_aload_n hx hb dX9_readAll_106 rfl (lv_at hl 2 rfl) ?_
  refine va_get (D := (dC, dI)) (ci := 9) (v := .int 0) (C := RX9) (T := TX9) (N := 12) hx hb hts iX9 hown hK hP 1 rfl rfl 9 (by decide) (hts _ k209) (fun _ h9 => h9) rfl dX9_readAll_107 ?_
  refine lv_iconst (v := 0) hx hb dX9_readAll_110 (by decide) ?_
  refine lv_iconst (v := 0) hx hb dX9_readAll_111 (by decide) ?_
  refine xV_v (n := 4) (As := [.int 0, .int 0, .int 0, .int 0]) (rest := []) (wc := [(a0, .inr (9, [.ref a2, .ref a3, .ref a4, .ref a5, .ref a6, .ref a7, .ref a8, .int 0, .ref a1, .int 0, .int 2, .int 0])), (a2, .inl (g10, 2003, .inl (upd (upd (fun _ => 0) 0 0) 1 0))), (a3, .inl (g11, 2003, .inl (upd (upd (fun _ => 0) 0 0) 1 0))), (a4, .inl (g12, 2003, .inl f3)), (a5, .inl (g13, 2003, .inl f4))]) (wr := [(a1, .inl (g14, 2000, .inl u15))]) (tc := [(g10, .int), (g11, .int), (g12, .int), (g13, .int)]) ⟨hx, hb, hml, hown, hts⟩ (c_X9_add_3 l dC dI a0 a2 a3 a4 a5 a6 a7 a8 a1 g10 g11 g12 f3 g13 f4 H.size) ⟨k213, k214, k215, k14, k216⟩ (by decide +kernel) rfl ⟨Nat.le_of_ble_eq_true rfl, Nat.le_of_ble_eq_true rfl⟩ ⟨Nat.le_of_ble_eq_true rfl, Nat.le_of_ble_eq_true rfl⟩ hK hP hD hS hA hN [1, 2, 3, 4, 5] [0] [0, 1, 2, 3] rfl rfl (by decide) (by decide) rfl 0 rfl rfl hl.1 rfl (Nat.le_of_ble_eq_true rfl) dX9_readAll_112 (fun z H locs hw hK hP hD hS => ?_)
  obtain ⟨f5, f6⟩ := z
  have hK : va_K (dC, dI) vwCl [(g10, .int), (g11, .int), (g12, .int), (g13, .int), (g14, .byte), (g10, .int), (g11, .int), (g12, .int), (g13, .int)] s := hK
  have hP : va_P (dC, dI) vwCl [(a1, .inl (g14, 2000, .inl u15)), (a0, .inr (9, [.ref a2, .ref a3, .ref a4, .ref a5, .ref a6, .ref a7, .ref a8, .int 0, .ref a1, .int 0, .int 3, .int 0])), (a2, .inl (g10, 2003, .inl (upd (upd (upd (fun _ => 0) 0 0) 1 0) 2 0))), (a3, .inl (g11, 2003, .inl (upd (upd (upd (fun _ => 0) 0 0) 1 0) 2 0))), (a4, .inl (g12, 2003, .inl f5)), (a5, .inl (g13, 2003, .inl f6))] H := hP
  have hD : va_D A [(a1, .inl (g14, 2000, .inl u15)), (a0, .inr (9, [.ref a2, .ref a3, .ref a4, .ref a5, .ref a6, .ref a7, .ref a8, .int 0, .ref a1, .int 0, .int 3, .int 0])), (a2, .inl (g10, 2003, .inl (upd (upd (upd (fun _ => 0) 0 0) 1 0) 2 0))), (a3, .inl (g11, 2003, .inl (upd (upd (upd (fun _ => 0) 0 0) 1 0) 2 0))), (a4, .inl (g12, 2003, .inl f5)), (a5, .inl (g13, 2003, .inl f6))] := hD
  refine W.widen (k := 0) (n := 0) (Nat.le_of_ble_eq_true rfl) (Nat.le_of_ble_eq_true rfl) ?_
  have hK := hK.sub (tys' := [(g10, .int), (g11, .int), (g12, .int), (g13, .int), (g14, .byte)]) [0, 1, 2, 3, 4] rfl
  refine lv_iinc (v := 3) (lv' := [(4, .int 3), (3, .int 0), (0, .ref a0), (1, .ref a1), (2, .int 0)]) hx hb dX9_readAll_115 hl (k := 0) rfl (by decide) (by decide) rfl (fun ls hl => ?_)
  refine lv_goto (tgt := 98) hx hb dX9_readAll_118 (by decide) ?_
  refine lv_iload hx hb dX9_readAll_98 (lv_at hl 0 rfl) ?_
  refine lv_iconst (v := 3) hx hb dX9_readAll_100 (by decide) ?_
  refine lv_icmp_ge (tgt := 121) hx hb dX9_readAll_101 (by decide) (fun _ => ?_) (fun c9 => absurd c9 (by decide))
  have hP9 := hP.sub (ws' := [(a1, .inl (g14, 2000, .inl u15)), (a0, .inr (9, [.ref a2, .ref a3, .ref a4, .ref a5, .ref a6, .ref a7, .ref a8, .int 0, .ref a1, .int 0, .int 3, .int 0])), (a2, .inl (g10, 2003, .inl (upd (upd (upd (fun _ => 0) 0 0) 1 0) 2 0))), (a3, .inl (g11, 2003, .inl (upd (upd (upd (fun _ => 0) 0 0) 1 0) 2 0))), (a4, .inl (g12, 2003, .inl f5)), (a5, .inl (g13, 2003, .inl f6))]) [0, 1, 2, 3, 4, 5] rfl
  have hD9 := hD.sub (ws' := [(a1, .inl (g14, 2000, .inl u15)), (a0, .inr (9, [.ref a2, .ref a3, .ref a4, .ref a5, .ref a6, .ref a7, .ref a8, .int 0, .ref a1, .int 0, .int 3, .int 0])), (a2, .inl (g10, 2003, .inl (upd (upd (upd (fun _ => 0) 0 0) 1 0) 2 0))), (a3, .inl (g11, 2003, .inl (upd (upd (upd (fun _ => 0) 0 0) 1 0) 2 0))), (a4, .inl (g12, 2003, .inl f5)), (a5, .inl (g13, 2003, .inl f6))]) [0, 1, 2, 3, 4, 5] (by decide) rfl
  have hK9 := hK.sub (tys' := [(g10, .int), (g11, .int), (g12, .int), (g13, .int), (g14, .byte)]) [0, 1, 2, 3, 4] rfl
  refine W.widen (k := 0) (n := 0) (Nat.le_of_ble_eq_true rfl) (Nat.le_of_ble_eq_true rfl) ?_
  exact W.vret hx hb hr (fun t ht hW => ⟨⟨(f5, f6), rfl, trivial, by rw [ht]; exact hP9, va_K.moved hW.alike hK9, hD9⟩, hS.F ht⟩) hS.2.2 dX9_readAll_121
set_option maxHeartbeats 4000000 in
set_option maxRecDepth 100000 in
theorem c_X0_accept_1 (l : Launch) (dC : Nat → ClassId) (dI : Nat → Nat → Nat) (a0 : Nat) (a1 : Nat) (a2 : Nat) (a3 : Nat) (a4 : Nat) (a5 : Nat) (a6 : Nat) (a7 : Nat) (a8 : Nat) (a9 : Nat) (a10 : Nat) (a11 : Nat) (a12 : Nat) (a13 : Nat) (a14 : Nat) (a15 : Nat) (a16 : Nat) (a17 : Nat) (a18 : Nat) (g19 : ClassId) (sz : Nat) : Met l yX0_accept (Cond.code yX0_accept cX0_accept 3 (some .boolean) :: wB) { frames := 0, cells := 0, slots := 0, locals := 0 } (va_Pc [.ref a0, .int 17] (pX (dC, dI) sz [(a0, .inr (0, [.ref a1, .ref a2, .ref a3, .ref a4, .ref a5, .ref a6, .ref a7, .ref a8, .ref a9, .ref a10, .int 0, .int 0, .int 0, .int 0, .int (-1), .int 0, .int 0, .int 0])), (a1, .inr (9, [.ref a11, .ref a12, .ref a13, .ref a14, .ref a15, .ref a16, .ref a17, .int 0, .ref a18, .int 0, .int 3, .int 0])), (a11, .inl (g19, 2003, .inl (upd (upd (upd (fun _ => 0) 0 0) 1 0) 2 0)))] [(g19, .int)])) (va_Qi (fun (r : Int32) (z : Unit) => r = 0) (fun z t => qX (dC, dI) [(a0, .inr (0, [.ref a1, .ref a2, .ref a3, .ref a4, .ref a5, .ref a6, .ref a7, .ref a8, .ref a9, .ref a10, .int 0, .int 0, .int 0, .int 0, .int (-1), .int 0, .int 0, .int 0])), (a1, .inr (9, [.ref a11, .ref a12, .ref a13, .ref a14, .ref a15, .ref a16, .ref a17, .int 0, .ref a18, .int 0, .int 3, .int 0])), (a11, .inl (g19, 2003, .inl (upd (upd (upd (fun _ => 0) 0 0) 1 0) 2 0)))] [(g19, .int)] (va_A [(a0, .inr (0, [.ref a1, .ref a2, .ref a3, .ref a4, .ref a5, .ref a6, .ref a7, .ref a8, .ref a9, .ref a10, .int 0, .int 0, .int 0, .int 0, .int (-1), .int 0, .int 0, .int 0])), (a1, .inr (9, [.ref a11, .ref a12, .ref a13, .ref a14, .ref a15, .ref a16, .ref a17, .int 0, .ref a18, .int 0, .int 3, .int 0])), (a11, .inl (g19, 2003, .inl (upd (upd (upd (fun _ => 0) 0 0) 1 0) 2 0)))] sz) t) (va_A [(a0, .inr (0, [.ref a1, .ref a2, .ref a3, .ref a4, .ref a5, .ref a6, .ref a7, .ref a8, .ref a9, .ref a10, .int 0, .int 0, .int 0, .int 0, .int (-1), .int 0, .int 0, .int 0])), (a1, .inr (9, [.ref a11, .ref a12, .ref a13, .ref a14, .ref a15, .ref a16, .ref a17, .int 0, .ref a18, .int 0, .int 3, .int 0])), (a11, .inl (g19, 2003, .inl (upd (upd (upd (fun _ => 0) 0 0) 1 0) 2 0)))] sz)) 0 0 (va_A [(a0, .inr (0, [.ref a1, .ref a2, .ref a3, .ref a4, .ref a5, .ref a6, .ref a7, .ref a8, .ref a9, .ref a10, .int 0, .int 0, .int 0, .int 0, .int (-1), .int 0, .int 0, .int 0])), (a1, .inr (9, [.ref a11, .ref a12, .ref a13, .ref a14, .ref a15, .ref a16, .ref a17, .int 0, .ref a18, .int 0, .int 3, .int 0])), (a11, .inl (g19, 2003, .inl (upd (upd (upd (fun _ => 0) 0 0) 1 0) 2 0)))] sz) := by
  refine Met.ofW (cc := cX0_accept) (maxL := 3) (ret := (some .boolean)) (by decide) rfl ?_
  intro p e s m args below meth c s₁ B hml hv
  obtain ⟨rfl, hsz, hP, hK, hD0, hN⟩ := hv
  have hx := B.exec
  have hb := B.bytes
  have hr := B.returns
  have hts : ∀ w ∈ wB, w.before _ s = true := fun w h => atoms_spec (ws := Cond.code yX0_accept cX0_accept 3 (some .boolean) :: wB) B.pre w (List.mem_cons_of_mem _ h)
  have hown : s.vm.findClass RX0 = some m.cls := findClass_of_methodNamed B.named
  have hlocks := B.notSynchronized
  subst hsz
  have hD := hD0.self (sz := s.heap.size)
  generalize hAe : va_A [(a0, .inr (0, [.ref a1, .ref a2, .ref a3, .ref a4, .ref a5, .ref a6, .ref a7, .ref a8, .ref a9, .ref a10, .int 0, .int 0, .int 0, .int 0, .int (-1), .int 0, .int 0, .int 0])), (a1, .inr (9, [.ref a11, .ref a12, .ref a13, .ref a14, .ref a15, .ref a16, .ref a17, .int 0, .ref a18, .int 0, .int 3, .int 0])), (a11, .inl (g19, 2003, .inl (upd (upd (upd (fun _ => 0) 0 0) 1 0) 2 0)))] s.heap.size = A at hD ⊢
  have hA : ∀ q : Nat, s.heap.size ≤ q → A q := fun q h => by rw [← hAe]; exact Or.inr h
  have hS : va_S A s.heap s.heap [] := va_S.rf
  have hP : va_P (dC, dI) vwCl [(a0, .inr (0, [.ref a1, .ref a2, .ref a3, .ref a4, .ref a5, .ref a6, .ref a7, .ref a8, .ref a9, .ref a10, .int 0, .int 0, .int 0, .int 0, .int (-1), .int 0, .int 0, .int 0])), (a1, .inr (9, [.ref a11, .ref a12, .ref a13, .ref a14, .ref a15, .ref a16, .ref a17, .int 0, .ref a18, .int 0, .int 3, .int 0])), (a11, .inl (g19, 2003, .inl (upd (upd (upd (fun _ => 0) 0 0) 1 0) 2 0)))] s.heap := hP
  have hl := lv_entry ([.ref a0, .int 17]) (n := 3) (Nat.le_of_ble_eq_true rfl)
  rw [lg_entry_eq]
  generalize (lg_sl ([.ref a0, .int 17]) ++ List.replicate (3 - (lg_sl ([.ref a0, .int 17])).length) Slot.unset).toArray = ls at hl ⊢
  have hl : lv_has ls 3 [(0, .ref a0), (1, .int 17)] := hl
  refine lv_aload_n hx hb dX0_accept_0 rfl (lv_at hl 0 rfl) ?_
  refine va_get (D := (dC, dI)) (ci := 0) (v := .int (-1)) (C := RX0) (T := TX0) (N := 18) hx hb hts iX0 hown hK hP 0 rfl rfl 14 (by decide) (hts _ k225) (fun _ h9 => h9) rfl dX0_accept_1 ?_
  refine lv_iconst (v := (-1)) hx hb dX0_accept_4 (by decide) ?_
  refine lv_icmp_ne (tgt := 28) hx hb dX0_accept_5 (by decide) (fun c9 => absurd c9 (by decide)) (fun _ => ?_)
  refine lv_aload_n hx hb dX0_accept_8 rfl (lv_at hl 0 rfl) ?_
  refine va_get (D := (dC, dI)) (ci := 0) (v := .ref a1) (C := RX0) (T := TX0) (N := 18) hx hb hts iX0 hown hK hP 0 rfl rfl 0 (by decide) (hts _ k43) (fun _ h9 => h9) rfl dX0_accept_9 ?_
  refine va_get (D := (dC, dI)) (ci := 9) (v := .ref a11) (C := RX9) (T := TX9) (N := 12) hx hb hts iX9 hown hK hP 1 rfl rfl 0 (by decide) (hts _ k228) (fun _ h9 => h9) rfl dX0_accept_12 ?_
  refine lv_aload_n hx hb dX0_accept_15 rfl (lv_at hl 0 rfl) ?_
  refine va_get (D := (dC, dI)) (ci := 0) (v := .int 0) (C := RX0) (T := TX0) (N := 18) hx hb hts iX0 hown hK hP 0 rfl rfl 16 (by decide) (hts _ k226) (fun _ h9 => h9) rfl dX0_accept_16 ?_
  refine va_iald hx hb hK hP 2 0 rfl rfl (inI (by decide)) dX0_accept_19 ?_
  refine lv_is 0 (by decide) ?_
  refine lv_iload_n hx hb dX0_accept_20 rfl (lv_at hl 1 rfl) ?_
  refine lv_icmp_ne (tgt := 28) hx hb dX0_accept_21 (by decide) (fun _ => ?_) (fun c9 => absurd c9 (by decide))
  refine lv_iconst (v := 0) hx hb dX0_accept_28 (by decide) ?_
  refine lv_istore_n (lv' := [(2, .int 0), (0, .ref a0), (1, .int 17)]) hx hb dX0_accept_29 rfl hl (by decide) rfl (fun ls hl => ?_)
  refine lv_aload_n hx hb dX0_accept_30 rfl (lv_at hl 1 rfl) ?_
  refine lv_dup hx hb dX0_accept_31 rfl ?_
  refine va_get (D := (dC, dI)) (ci := 0) (v := .int 0) (C := RX0) (T := TX0) (N := 18) hx hb hts iX0 hown hK hP 0 rfl rfl 16 (by decide) (hts _ k226) (fun _ h9 => h9) rfl dX0_accept_32 ?_
  refine lv_iload_n hx hb dX0_accept_35 rfl (lv_at hl 0 rfl) ?_
  refine lv_if_eq (tgt := 43) hx hb dX0_accept_36 (by decide) (fun _ => ?_) (fun c9 => absurd c9 (by decide))
  refine lv_iconst (v := 0) hx hb dX0_accept_43 (by decide) ?_
  refine lv_iadd hx hb dX0_accept_44 ?_
  refine lv_is 0 (by decide) ?_
  refine va_put (D := (dC, dI)) (ci := 0) (v := .int 0) (ty := .int) (C := RX0) (T := TX0) (N := 18) hx hb hts iX0 tyX0 tyX0_ok nmX0 hown hK hP hD hS 0 rfl rfl 16 (by decide) (hts _ k226) (fun _ h9 => h9) rfl (by decide +kernel) rfl rfl (Nat.le_of_ble_eq_true rfl) dX0_accept_45 (fun H locs hP hD hS => ?_)
  have hP : va_P (dC, dI) vwCl [(a0, .inr (0, [.ref a1, .ref a2, .ref a3, .ref a4, .ref a5, .ref a6, .ref a7, .ref a8, .ref a9, .ref a10, .int 0, .int 0, .int 0, .int 0, .int (-1), .int 0, .int 0, .int 0])), (a1, .inr (9, [.ref a11, .ref a12, .ref a13, .ref a14, .ref a15, .ref a16, .ref a17, .int 0, .ref a18, .int 0, .int 3, .int 0])), (a11, .inl (g19, 2003, .inl (upd (upd (upd (fun _ => 0) 0 0) 1 0) 2 0)))] H := hP
  have hD : va_D A [(a0, .inr (0, [.ref a1, .ref a2, .ref a3, .ref a4, .ref a5, .ref a6, .ref a7, .ref a8, .ref a9, .ref a10, .int 0, .int 0, .int 0, .int 0, .int (-1), .int 0, .int 0, .int 0])), (a1, .inr (9, [.ref a11, .ref a12, .ref a13, .ref a14, .ref a15, .ref a16, .ref a17, .int 0, .ref a18, .int 0, .int 3, .int 0])), (a11, .inl (g19, 2003, .inl (upd (upd (upd (fun _ => 0) 0 0) 1 0) 2 0)))] := hD
  refine lv_iload_n hx hb dX0_accept_48 rfl (lv_at hl 0 rfl) ?_
  have hP9 := hP.sub (ws' := [(a0, .inr (0, [.ref a1, .ref a2, .ref a3, .ref a4, .ref a5, .ref a6, .ref a7, .ref a8, .ref a9, .ref a10, .int 0, .int 0, .int 0, .int 0, .int (-1), .int 0, .int 0, .int 0])), (a1, .inr (9, [.ref a11, .ref a12, .ref a13, .ref a14, .ref a15, .ref a16, .ref a17, .int 0, .ref a18, .int 0, .int 3, .int 0])), (a11, .inl (g19, 2003, .inl (upd (upd (upd (fun _ => 0) 0 0) 1 0) 2 0)))]) [0, 1, 2] rfl
  have hD9 := hD.sub (ws' := [(a0, .inr (0, [.ref a1, .ref a2, .ref a3, .ref a4, .ref a5, .ref a6, .ref a7, .ref a8, .ref a9, .ref a10, .int 0, .int 0, .int 0, .int 0, .int (-1), .int 0, .int 0, .int 0])), (a1, .inr (9, [.ref a11, .ref a12, .ref a13, .ref a14, .ref a15, .ref a16, .ref a17, .int 0, .ref a18, .int 0, .int 3, .int 0])), (a11, .inl (g19, 2003, .inl (upd (upd (upd (fun _ => 0) 0 0) 1 0) 2 0)))]) [0, 1, 2] (by decide) rfl
  have hK9 := hK.sub (tys' := [(g19, .int)]) [0] rfl
  refine W.widen (k := 0) (n := 0) (Nat.le_of_ble_eq_true rfl) (Nat.le_of_ble_eq_true rfl) ?_
  exact W.zret (v := 0) hx hb hr rfl (fun t ht hW => ⟨⟨0, (), rfl, rfl, by rw [ht]; exact hP9, va_K.moved hW.alike hK9, hD9⟩, hS.F ht⟩) hS.2.2 dX0_accept_49
set_option maxHeartbeats 4000000 in
set_option maxRecDepth 100000 in
theorem c_X0_need_1 (l : Launch) (dC : Nat → ClassId) (dI : Nat → Nat → Nat) (a0 : Nat) (a1 : Nat) (g2 : ClassId) (a3 : Nat) (a4 : Nat) (a5 : Nat) (a6 : Nat) (a7 : Nat) (a8 : Nat) (a9 : Nat) (a10 : Nat) (a11 : Nat) (a12 : Nat) (a13 : Nat) (a14 : Nat) (a15 : Nat) (a16 : Nat) (a17 : Nat) (a18 : Nat) (a19 : Nat) (g20 : ClassId) (sz : Nat) : Met l yX0_need (Cond.code yX0_need cX0_need 4 none :: wB) { frames := 0, cells := 0, slots := 0, locals := 0 } (va_Pc [.ref a0, .int 11] (pX (dC, dI) sz [(a1, .inl (g2, 2003, .inl (upd (upd (upd (fun _ => 0) 0 0) 1 0) 2 0))), (a0, .inr (0, [.ref a3, .ref a4, .ref a5, .ref a6, .ref a7, .ref a8, .ref a9, .ref a10, .ref a11, .ref a12, .int 0, .int 0, .int 0, .int 0, .int (-1), .int 0, .int 0, .int 0])), (a3, .inr (9, [.ref a13, .ref a1, .ref a14, .ref a15, .ref a16, .ref a17, .ref a18, .int 0, .ref a19, .int 0, .int 3, .int 0])), (a13, .inl (g20, 2003, .inl (upd (upd (upd (fun _ => 0) 0 0) 1 0) 2 0)))] [(g20, .int), (g2, .int)])) (va_Qv (fun _ : Unit => True) (fun z t => qX (dC, dI) [(a1, .inl (g2, 2003, .inl (upd (upd (upd (fun _ => 0) 0 0) 1 0) 2 0))), (a0, .inr (0, [.ref a3, .ref a4, .ref a5, .ref a6, .ref a7, .ref a8, .ref a9, .ref a10, .ref a11, .ref a12, .int 0, .int 0, .int 0, .int 0, .int 0, .int 0, .int 0, .int 0])), (a3, .inr (9, [.ref a13, .ref a1, .ref a14, .ref a15, .ref a16, .ref a17, .ref a18, .int 0, .ref a19, .int 0, .int 3, .int 0])), (a13, .inl (g20, 2003, .inl (upd (upd (upd (fun _ => 0) 0 0) 1 0) 2 0)))] [(g20, .int), (g2, .int)] (va_A [(a1, .inl (g2, 2003, .inl (upd (upd (upd (fun _ => 0) 0 0) 1 0) 2 0))), (a0, .inr (0, [.ref a3, .ref a4, .ref a5, .ref a6, .ref a7, .ref a8, .ref a9, .ref a10, .ref a11, .ref a12, .int 0, .int 0, .int 0, .int 0, .int (-1), .int 0, .int 0, .int 0])), (a3, .inr (9, [.ref a13, .ref a1, .ref a14, .ref a15, .ref a16, .ref a17, .ref a18, .int 0, .ref a19, .int 0, .int 3, .int 0])), (a13, .inl (g20, 2003, .inl (upd (upd (upd (fun _ => 0) 0 0) 1 0) 2 0)))] sz) t) (va_A [(a1, .inl (g2, 2003, .inl (upd (upd (upd (fun _ => 0) 0 0) 1 0) 2 0))), (a0, .inr (0, [.ref a3, .ref a4, .ref a5, .ref a6, .ref a7, .ref a8, .ref a9, .ref a10, .ref a11, .ref a12, .int 0, .int 0, .int 0, .int 0, .int (-1), .int 0, .int 0, .int 0])), (a3, .inr (9, [.ref a13, .ref a1, .ref a14, .ref a15, .ref a16, .ref a17, .ref a18, .int 0, .ref a19, .int 0, .int 3, .int 0])), (a13, .inl (g20, 2003, .inl (upd (upd (upd (fun _ => 0) 0 0) 1 0) 2 0)))] sz)) 0 0 (va_A [(a1, .inl (g2, 2003, .inl (upd (upd (upd (fun _ => 0) 0 0) 1 0) 2 0))), (a0, .inr (0, [.ref a3, .ref a4, .ref a5, .ref a6, .ref a7, .ref a8, .ref a9, .ref a10, .ref a11, .ref a12, .int 0, .int 0, .int 0, .int 0, .int (-1), .int 0, .int 0, .int 0])), (a3, .inr (9, [.ref a13, .ref a1, .ref a14, .ref a15, .ref a16, .ref a17, .ref a18, .int 0, .ref a19, .int 0, .int 3, .int 0])), (a13, .inl (g20, 2003, .inl (upd (upd (upd (fun _ => 0) 0 0) 1 0) 2 0)))] sz) := by
  refine Met.ofW (cc := cX0_need) (maxL := 4) (ret := none) (by decide) rfl ?_
  intro p e s m args below meth c s₁ B hml hv
  obtain ⟨rfl, hsz, hP, hK, hD0, hN⟩ := hv
  have hx := B.exec
  have hb := B.bytes
  have hr := B.returns
  have hts : ∀ w ∈ wB, w.before _ s = true := fun w h => atoms_spec (ws := Cond.code yX0_need cX0_need 4 none :: wB) B.pre w (List.mem_cons_of_mem _ h)
  have hown : s.vm.findClass RX0 = some m.cls := findClass_of_methodNamed B.named
  have hlocks := B.notSynchronized
  subst hsz
  have hD := hD0.self (sz := s.heap.size)
  generalize hAe : va_A [(a1, .inl (g2, 2003, .inl (upd (upd (upd (fun _ => 0) 0 0) 1 0) 2 0))), (a0, .inr (0, [.ref a3, .ref a4, .ref a5, .ref a6, .ref a7, .ref a8, .ref a9, .ref a10, .ref a11, .ref a12, .int 0, .int 0, .int 0, .int 0, .int (-1), .int 0, .int 0, .int 0])), (a3, .inr (9, [.ref a13, .ref a1, .ref a14, .ref a15, .ref a16, .ref a17, .ref a18, .int 0, .ref a19, .int 0, .int 3, .int 0])), (a13, .inl (g20, 2003, .inl (upd (upd (upd (fun _ => 0) 0 0) 1 0) 2 0)))] s.heap.size = A at hD ⊢
  have hA : ∀ q : Nat, s.heap.size ≤ q → A q := fun q h => by rw [← hAe]; exact Or.inr h
  have hS : va_S A s.heap s.heap [] := va_S.rf
  have hP : va_P (dC, dI) vwCl [(a1, .inl (g2, 2003, .inl (upd (upd (upd (fun _ => 0) 0 0) 1 0) 2 0))), (a0, .inr (0, [.ref a3, .ref a4, .ref a5, .ref a6, .ref a7, .ref a8, .ref a9, .ref a10, .ref a11, .ref a12, .int 0, .int 0, .int 0, .int 0, .int (-1), .int 0, .int 0, .int 0])), (a3, .inr (9, [.ref a13, .ref a1, .ref a14, .ref a15, .ref a16, .ref a17, .ref a18, .int 0, .ref a19, .int 0, .int 3, .int 0])), (a13, .inl (g20, 2003, .inl (upd (upd (upd (fun _ => 0) 0 0) 1 0) 2 0)))] s.heap := hP
  have hl := lv_entry ([.ref a0, .int 11]) (n := 4) (Nat.le_of_ble_eq_true rfl)
  rw [lg_entry_eq]
  generalize (lg_sl ([.ref a0, .int 11]) ++ List.replicate (4 - (lg_sl ([.ref a0, .int 11])).length) Slot.unset).toArray = ls at hl ⊢
  have hl : lv_has ls 4 [(0, .ref a0), (1, .int 11)] := hl
  refine lv_iload_n hx hb dX0_need_0 rfl (lv_at hl 1 rfl) ?_
  refine lv_bipush (v := 40) hx hb dX0_need_1 (by decide) ?_
  refine lv_icmp_eq (tgt := 18) hx hb dX0_need_3 (by decide) (fun c9 => absurd c9 (by decide)) (fun _ => ?_)
  refine lv_iload_n hx hb dX0_need_6 rfl (lv_at hl 1 rfl) ?_
  refine lv_bipush (v := 42) hx hb dX0_need_7 (by decide) ?_
  refine lv_icmp_eq (tgt := 18) hx hb dX0_need_9 (by decide) (fun c9 => absurd c9 (by decide)) (fun _ => ?_)
  refine lv_iload_n hx hb dX0_need_12 rfl (lv_at hl 1 rfl) ?_
  refine lv_bipush (v := 44) hx hb dX0_need_13 (by decide) ?_
  refine lv_icmp_ne (tgt := 22) hx hb dX0_need_15 (by decide) (fun _ => ?_) (fun c9 => absurd c9 (by decide))
  refine lv_iconst (v := 0) hx hb dX0_need_22 (by decide) ?_
  refine lv_istore_n (lv' := [(2, .int 0), (0, .ref a0), (1, .int 11)]) hx hb dX0_need_23 rfl hl (by decide) rfl (fun ls hl => ?_)
  refine lv_iload_n hx hb dX0_need_24 rfl (lv_at hl 2 rfl) ?_
  refine lv_bipush (v := 41) hx hb dX0_need_25 (by decide) ?_
  refine lv_icmp_eq (tgt := 42) hx hb dX0_need_27 (by decide) (fun c9 => absurd c9 (by decide)) (fun _ => ?_)
  refine lv_iload_n hx hb dX0_need_30 rfl (lv_at hl 2 rfl) ?_
  refine lv_bipush (v := 43) hx hb dX0_need_31 (by decide) ?_
  refine lv_icmp_eq (tgt := 42) hx hb dX0_need_33 (by decide) (fun c9 => absurd c9 (by decide)) (fun _ => ?_)
  refine lv_iload_n hx hb dX0_need_36 rfl (lv_at hl 2 rfl) ?_
  refine lv_bipush (v := 45) hx hb dX0_need_37 (by decide) ?_
  refine lv_icmp_ne (tgt := 46) hx hb dX0_need_39 (by decide) (fun _ => ?_) (fun c9 => absurd c9 (by decide))
  refine lv_iconst (v := 0) hx hb dX0_need_46 (by decide) ?_
  refine lv_istore_n (lv' := [(3, .int 0), (2, .int 0), (0, .ref a0), (1, .int 11)]) hx hb dX0_need_47 rfl hl (by decide) rfl (fun ls hl => ?_)
  refine lv_aload_n hx hb dX0_need_48 rfl (lv_at hl 2 rfl) ?_
  refine va_get (D := (dC, dI)) (ci := 0) (v := .int (-1)) (C := RX0) (T := TX0) (N := 18) hx hb hts iX0 hown hK hP 1 rfl rfl 14 (by decide) (hts _ k225) (fun _ h9 => h9) rfl dX0_need_49 ?_
  refine lv_iconst (v := (-1)) hx hb dX0_need_52 (by decide) ?_
  refine lv_icmp_eq (tgt := 57) hx hb dX0_need_53 (by decide) (fun _ => ?_) (fun c9 => absurd c9 (by decide))
  refine lv_aload_n hx hb dX0_need_57 rfl (lv_at hl 2 rfl) ?_
  refine va_get (D := (dC, dI)) (ci := 0) (v := .ref a3) (C := RX0) (T := TX0) (N := 18) hx hb hts iX0 hown hK hP 1 rfl rfl 0 (by decide) (hts _ k43) (fun _ h9 => h9) rfl dX0_need_58 ?_
  refine va_get (D := (dC, dI)) (ci := 9) (v := .ref a13) (C := RX9) (T := TX9) (N := 12) hx hb hts iX9 hown hK hP 2 rfl rfl 0 (by decide) (hts _ k228) (fun _ h9 => h9) rfl dX0_need_61 ?_
  refine lv_aload_n hx hb dX0_need_64 rfl (lv_at hl 2 rfl) ?_
  refine va_get (D := (dC, dI)) (ci := 0) (v := .int 0) (C := RX0) (T := TX0) (N := 18) hx hb hts iX0 hown hK hP 1 rfl rfl 16 (by decide) (hts _ k226) (fun _ h9 => h9) rfl dX0_need_65 ?_
  refine va_iald hx hb hK hP 3 0 rfl rfl (inI (by decide)) dX0_need_68 ?_
  refine lv_is 0 (by decide) ?_
  refine lv_iload_n hx hb dX0_need_69 rfl (lv_at hl 3 rfl) ?_
  refine lv_icmp_ne (tgt := 125) hx hb dX0_need_70 (by decide) (fun _ => ?_) (fun c9 => absurd c9 (by decide))
  refine lv_aload_n hx hb dX0_need_125 rfl (lv_at hl 2 rfl) ?_
  refine lv_aload_n hx hb dX0_need_126 rfl (lv_at hl 2 rfl) ?_
  refine va_get (D := (dC, dI)) (ci := 0) (v := .ref a3) (C := RX0) (T := TX0) (N := 18) hx hb hts iX0 hown hK hP 1 rfl rfl 0 (by decide) (hts _ k43) (fun _ h9 => h9) rfl dX0_need_127 ?_
  refine va_get (D := (dC, dI)) (ci := 9) (v := .ref a1) (C := RX9) (T := TX9) (N := 12) hx hb hts iX9 hown hK hP 2 rfl rfl 1 (by decide) (hts _ k233) (fun _ h9 => h9) rfl dX0_need_130 ?_
  refine lv_aload_n hx hb dX0_need_133 rfl (lv_at hl 2 rfl) ?_
  refine va_get (D := (dC, dI)) (ci := 0) (v := .int 0) (C := RX0) (T := TX0) (N := 18) hx hb hts iX0 hown hK hP 1 rfl rfl 16 (by decide) (hts _ k226) (fun _ h9 => h9) rfl dX0_need_134 ?_
  refine va_iald hx hb hK hP 0 1 rfl rfl (inI (by decide)) dX0_need_137 ?_
  refine lv_is 0 (by decide) ?_
  refine va_put (D := (dC, dI)) (ci := 0) (v := .int 0) (ty := .int) (C := RX0) (T := TX0) (N := 18) hx hb hts iX0 tyX0 tyX0_ok nmX0 hown hK hP hD hS 1 rfl rfl 14 (by decide) (hts _ k225) (fun _ h9 => h9) rfl (by decide +kernel) rfl rfl (Nat.le_of_ble_eq_true rfl) dX0_need_138 (fun H locs hP hD hS => ?_)
  have hP : va_P (dC, dI) vwCl [(a1, .inl (g2, 2003, .inl (upd (upd (upd (fun _ => 0) 0 0) 1 0) 2 0))), (a0, .inr (0, [.ref a3, .ref a4, .ref a5, .ref a6, .ref a7, .ref a8, .ref a9, .ref a10, .ref a11, .ref a12, .int 0, .int 0, .int 0, .int 0, .int 0, .int 0, .int 0, .int 0])), (a3, .inr (9, [.ref a13, .ref a1, .ref a14, .ref a15, .ref a16, .ref a17, .ref a18, .int 0, .ref a19, .int 0, .int 3, .int 0])), (a13, .inl (g20, 2003, .inl (upd (upd (upd (fun _ => 0) 0 0) 1 0) 2 0)))] H := hP
  have hD : va_D A [(a1, .inl (g2, 2003, .inl (upd (upd (upd (fun _ => 0) 0 0) 1 0) 2 0))), (a0, .inr (0, [.ref a3, .ref a4, .ref a5, .ref a6, .ref a7, .ref a8, .ref a9, .ref a10, .ref a11, .ref a12, .int 0, .int 0, .int 0, .int 0, .int 0, .int 0, .int 0, .int 0])), (a3, .inr (9, [.ref a13, .ref a1, .ref a14, .ref a15, .ref a16, .ref a17, .ref a18, .int 0, .ref a19, .int 0, .int 3, .int 0])), (a13, .inl (g20, 2003, .inl (upd (upd (upd (fun _ => 0) 0 0) 1 0) 2 0)))] := hD
  have hP9 := hP.sub (ws' := [(a1, .inl (g2, 2003, .inl (upd (upd (upd (fun _ => 0) 0 0) 1 0) 2 0))), (a0, .inr (0, [.ref a3, .ref a4, .ref a5, .ref a6, .ref a7, .ref a8, .ref a9, .ref a10, .ref a11, .ref a12, .int 0, .int 0, .int 0, .int 0, .int 0, .int 0, .int 0, .int 0])), (a3, .inr (9, [.ref a13, .ref a1, .ref a14, .ref a15, .ref a16, .ref a17, .ref a18, .int 0, .ref a19, .int 0, .int 3, .int 0])), (a13, .inl (g20, 2003, .inl (upd (upd (upd (fun _ => 0) 0 0) 1 0) 2 0)))]) [0, 1, 2, 3] rfl
  have hD9 := hD.sub (ws' := [(a1, .inl (g2, 2003, .inl (upd (upd (upd (fun _ => 0) 0 0) 1 0) 2 0))), (a0, .inr (0, [.ref a3, .ref a4, .ref a5, .ref a6, .ref a7, .ref a8, .ref a9, .ref a10, .ref a11, .ref a12, .int 0, .int 0, .int 0, .int 0, .int 0, .int 0, .int 0, .int 0])), (a3, .inr (9, [.ref a13, .ref a1, .ref a14, .ref a15, .ref a16, .ref a17, .ref a18, .int 0, .ref a19, .int 0, .int 3, .int 0])), (a13, .inl (g20, 2003, .inl (upd (upd (upd (fun _ => 0) 0 0) 1 0) 2 0)))]) [0, 1, 2, 3] (by decide) rfl
  have hK9 := hK.sub (tys' := [(g20, .int), (g2, .int)]) [0, 1] rfl
  refine W.widen (k := 0) (n := 0) (Nat.le_of_ble_eq_true rfl) (Nat.le_of_ble_eq_true rfl) ?_
  exact W.vret hx hb hr (fun t ht hW => ⟨⟨(), rfl, trivial, by rw [ht]; exact hP9, va_K.moved hW.alike hK9, hD9⟩, hS.F ht⟩) hS.2.2 dX0_need_141
set_option maxHeartbeats 4000000 in
set_option maxRecDepth 100000 in
theorem c_X0_need_2 (l : Launch) (dC : Nat → ClassId) (dI : Nat → Nat → Nat) (a0 : Nat) (a1 : Nat) (a2 : Nat) (a3 : Nat) (a4 : Nat) (a5 : Nat) (a6 : Nat) (a7 : Nat) (a8 : Nat) (a9 : Nat) (a10 : Nat) (sz : Nat) : Met l yX0_need (Cond.code yX0_need cX0_need 4 none :: wB) { frames := 0, cells := 0, slots := 0, locals := 0 } (va_Pc [.ref a0, .int 2] (pX (dC, dI) sz [(a0, .inr (0, [.ref a1, .ref a2, .ref a3, .ref a4, .ref a5, .ref a6, .ref a7, .ref a8, .ref a9, .ref a10, .int 1, .int 0, .int 0, .int 0, .int 0, .int 0, .int 0, .int 0]))] [])) (va_Qv (fun _ : Unit => True) (fun z t => qX (dC, dI) [(a0, .inr (0, [.ref a1, .ref a2, .ref a3, .ref a4, .ref a5, .ref a6, .ref a7, .ref a8, .ref a9, .ref a10, .int 1, .int 0, .int 0, .int 0, .int 0, .int 0, .int 0, .int 0]))] [] (va_A [(a0, .inr (0, [.ref a1, .ref a2, .ref a3, .ref a4, .ref a5, .ref a6, .ref a7, .ref a8, .ref a9, .ref a10, .int 1, .int 0, .int 0, .int 0, .int 0, .int 0, .int 0, .int 0]))] sz) t) (va_A [(a0, .inr (0, [.ref a1, .ref a2, .ref a3, .ref a4, .ref a5, .ref a6, .ref a7, .ref a8, .ref a9, .ref a10, .int 1, .int 0, .int 0, .int 0, .int 0, .int 0, .int 0, .int 0]))] sz)) 0 0 (va_A [(a0, .inr (0, [.ref a1, .ref a2, .ref a3, .ref a4, .ref a5, .ref a6, .ref a7, .ref a8, .ref a9, .ref a10, .int 1, .int 0, .int 0, .int 0, .int 0, .int 0, .int 0, .int 0]))] sz) := by
  refine Met.ofW (cc := cX0_need) (maxL := 4) (ret := none) (by decide) rfl ?_
  intro p e s m args below meth c s₁ B hml hv
  obtain ⟨rfl, hsz, hP, hK, hD0, hN⟩ := hv
  have hx := B.exec
  have hb := B.bytes
  have hr := B.returns
  have hts : ∀ w ∈ wB, w.before _ s = true := fun w h => atoms_spec (ws := Cond.code yX0_need cX0_need 4 none :: wB) B.pre w (List.mem_cons_of_mem _ h)
  have hown : s.vm.findClass RX0 = some m.cls := findClass_of_methodNamed B.named
  have hlocks := B.notSynchronized
  subst hsz
  have hD := hD0.self (sz := s.heap.size)
  generalize hAe : va_A [(a0, .inr (0, [.ref a1, .ref a2, .ref a3, .ref a4, .ref a5, .ref a6, .ref a7, .ref a8, .ref a9, .ref a10, .int 1, .int 0, .int 0, .int 0, .int 0, .int 0, .int 0, .int 0]))] s.heap.size = A at hD ⊢
  have hA : ∀ q : Nat, s.heap.size ≤ q → A q := fun q h => by rw [← hAe]; exact Or.inr h
  have hS : va_S A s.heap s.heap [] := va_S.rf
  have hP : va_P (dC, dI) vwCl [(a0, .inr (0, [.ref a1, .ref a2, .ref a3, .ref a4, .ref a5, .ref a6, .ref a7, .ref a8, .ref a9, .ref a10, .int 1, .int 0, .int 0, .int 0, .int 0, .int 0, .int 0, .int 0]))] s.heap := hP
  have hl := lv_entry ([.ref a0, .int 2]) (n := 4) (Nat.le_of_ble_eq_true rfl)
  rw [lg_entry_eq]
  generalize (lg_sl ([.ref a0, .int 2]) ++ List.replicate (4 - (lg_sl ([.ref a0, .int 2])).length) Slot.unset).toArray = ls at hl ⊢
  have hl : lv_has ls 4 [(0, .ref a0), (1, .int 2)] := hl
  refine lv_iload_n hx hb dX0_need_0 rfl (lv_at hl 1 rfl) ?_
  refine lv_bipush (v := 40) hx hb dX0_need_1 (by decide) ?_
  refine lv_icmp_eq (tgt := 18) hx hb dX0_need_3 (by decide) (fun c9 => absurd c9 (by decide)) (fun _ => ?_)
  refine lv_iload_n hx hb dX0_need_6 rfl (lv_at hl 1 rfl) ?_
  refine lv_bipush (v := 42) hx hb dX0_need_7 (by decide) ?_
  refine lv_icmp_eq (tgt := 18) hx hb dX0_need_9 (by decide) (fun c9 => absurd c9 (by decide)) (fun _ => ?_)
  refine lv_iload_n hx hb dX0_need_12 rfl (lv_at hl 1 rfl) ?_
  refine lv_bipush (v := 44) hx hb dX0_need_13 (by decide) ?_
  refine lv_icmp_ne (tgt := 22) hx hb dX0_need_15 (by decide) (fun _ => ?_) (fun c9 => absurd c9 (by decide))
  refine lv_iconst (v := 0) hx hb dX0_need_22 (by decide) ?_
  refine lv_istore_n (lv' := [(2, .int 0), (0, .ref a0), (1, .int 2)]) hx hb dX0_need_23 rfl hl (by decide) rfl (fun ls hl => ?_)
  refine lv_iload_n hx hb dX0_need_24 rfl (lv_at hl 2 rfl) ?_
  refine lv_bipush (v := 41) hx hb dX0_need_25 (by decide) ?_
  refine lv_icmp_eq (tgt := 42) hx hb dX0_need_27 (by decide) (fun c9 => absurd c9 (by decide)) (fun _ => ?_)
  refine lv_iload_n hx hb dX0_need_30 rfl (lv_at hl 2 rfl) ?_
  refine lv_bipush (v := 43) hx hb dX0_need_31 (by decide) ?_
  refine lv_icmp_eq (tgt := 42) hx hb dX0_need_33 (by decide) (fun c9 => absurd c9 (by decide)) (fun _ => ?_)
  refine lv_iload_n hx hb dX0_need_36 rfl (lv_at hl 2 rfl) ?_
  refine lv_bipush (v := 45) hx hb dX0_need_37 (by decide) ?_
  refine lv_icmp_ne (tgt := 46) hx hb dX0_need_39 (by decide) (fun _ => ?_) (fun c9 => absurd c9 (by decide))
  refine lv_iconst (v := 0) hx hb dX0_need_46 (by decide) ?_
  refine lv_istore_n (lv' := [(3, .int 0), (2, .int 0), (0, .ref a0), (1, .int 2)]) hx hb dX0_need_47 rfl hl (by decide) rfl (fun ls hl => ?_)
  refine lv_aload_n hx hb dX0_need_48 rfl (lv_at hl 2 rfl) ?_
  refine va_get (D := (dC, dI)) (ci := 0) (v := .int 0) (C := RX0) (T := TX0) (N := 18) hx hb hts iX0 hown hK hP 0 rfl rfl 14 (by decide) (hts _ k225) (fun _ h9 => h9) rfl dX0_need_49 ?_
  refine lv_iconst (v := (-1)) hx hb dX0_need_52 (by decide) ?_
  refine lv_icmp_eq (tgt := 57) hx hb dX0_need_53 (by decide) (fun c9 => absurd c9 (by decide)) (fun _ => ?_)
  have hP9 := hP.sub (ws' := [(a0, .inr (0, [.ref a1, .ref a2, .ref a3, .ref a4, .ref a5, .ref a6, .ref a7, .ref a8, .ref a9, .ref a10, .int 1, .int 0, .int 0, .int 0, .int 0, .int 0, .int 0, .int 0]))]) [0] rfl
  have hD9 := hD.sub (ws' := [(a0, .inr (0, [.ref a1, .ref a2, .ref a3, .ref a4, .ref a5, .ref a6, .ref a7, .ref a8, .ref a9, .ref a10, .int 1, .int 0, .int 0, .int 0, .int 0, .int 0, .int 0, .int 0]))]) [0] (by decide) rfl
  have hK9 := hK.sub (tys' := []) [] rfl
  refine W.widen (k := 0) (n := 0) (Nat.le_of_ble_eq_true rfl) (Nat.le_of_ble_eq_true rfl) ?_
  exact W.vret hx hb hr (fun t ht hW => ⟨⟨(), rfl, trivial, by rw [ht]; exact hP9, va_K.moved hW.alike hK9, hD9⟩, hS.F ht⟩) hS.2.2 dX0_need_56
set_option maxHeartbeats 4000000 in
set_option maxRecDepth 100000 in
theorem c_X0_need_3 (l : Launch) (dC : Nat → ClassId) (dI : Nat → Nat → Nat) (a0 : Nat) (a1 : Nat) (a2 : Nat) (a3 : Nat) (a4 : Nat) (a5 : Nat) (a6 : Nat) (a7 : Nat) (a8 : Nat) (a9 : Nat) (a10 : Nat) (sz : Nat) : Met l yX0_need (Cond.code yX0_need cX0_need 4 none :: wB) { frames := 0, cells := 0, slots := 0, locals := 0 } (va_Pc [.ref a0, .int 42] (pX (dC, dI) sz [(a0, .inr (0, [.ref a1, .ref a2, .ref a3, .ref a4, .ref a5, .ref a6, .ref a7, .ref a8, .ref a9, .ref a10, .int 1, .int 0, .int 0, .int 0, .int 0, .int 0, .int 0, .int 0]))] [])) (va_Qv (fun _ : Unit => True) (fun z t => qX (dC, dI) [(a0, .inr (0, [.ref a1, .ref a2, .ref a3, .ref a4, .ref a5, .ref a6, .ref a7, .ref a8, .ref a9, .ref a10, .int 1, .int 0, .int 0, .int 0, .int 0, .int 0, .int 0, .int 0]))] [] (va_A [(a0, .inr (0, [.ref a1, .ref a2, .ref a3, .ref a4, .ref a5, .ref a6, .ref a7, .ref a8, .ref a9, .ref a10, .int 1, .int 0, .int 0, .int 0, .int 0, .int 0, .int 0, .int 0]))] sz) t) (va_A [(a0, .inr (0, [.ref a1, .ref a2, .ref a3, .ref a4, .ref a5, .ref a6, .ref a7, .ref a8, .ref a9, .ref a10, .int 1, .int 0, .int 0, .int 0, .int 0, .int 0, .int 0, .int 0]))] sz)) 0 0 (va_A [(a0, .inr (0, [.ref a1, .ref a2, .ref a3, .ref a4, .ref a5, .ref a6, .ref a7, .ref a8, .ref a9, .ref a10, .int 1, .int 0, .int 0, .int 0, .int 0, .int 0, .int 0, .int 0]))] sz) := by
  refine Met.ofW (cc := cX0_need) (maxL := 4) (ret := none) (by decide) rfl ?_
  intro p e s m args below meth c s₁ B hml hv
  obtain ⟨rfl, hsz, hP, hK, hD0, hN⟩ := hv
  have hx := B.exec
  have hb := B.bytes
  have hr := B.returns
  have hts : ∀ w ∈ wB, w.before _ s = true := fun w h => atoms_spec (ws := Cond.code yX0_need cX0_need 4 none :: wB) B.pre w (List.mem_cons_of_mem _ h)
  have hown : s.vm.findClass RX0 = some m.cls := findClass_of_methodNamed B.named
  have hlocks := B.notSynchronized
  subst hsz
  have hD := hD0.self (sz := s.heap.size)
  generalize hAe : va_A [(a0, .inr (0, [.ref a1, .ref a2, .ref a3, .ref a4, .ref a5, .ref a6, .ref a7, .ref a8, .ref a9, .ref a10, .int 1, .int 0, .int 0, .int 0, .int 0, .int 0, .int 0, .int 0]))] s.heap.size = A at hD ⊢
  have hA : ∀ q : Nat, s.heap.size ≤ q → A q := fun q h => by rw [← hAe]; exact Or.inr h
  have hS : va_S A s.heap s.heap [] := va_S.rf
  have hP : va_P (dC, dI) vwCl [(a0, .inr (0, [.ref a1, .ref a2, .ref a3, .ref a4, .ref a5, .ref a6, .ref a7, .ref a8, .ref a9, .ref a10, .int 1, .int 0, .int 0, .int 0, .int 0, .int 0, .int 0, .int 0]))] s.heap := hP
  have hl := lv_entry ([.ref a0, .int 42]) (n := 4) (Nat.le_of_ble_eq_true rfl)
  rw [lg_entry_eq]
  generalize (lg_sl ([.ref a0, .int 42]) ++ List.replicate (4 - (lg_sl ([.ref a0, .int 42])).length) Slot.unset).toArray = ls at hl ⊢
  have hl : lv_has ls 4 [(0, .ref a0), (1, .int 42)] := hl
  refine lv_iload_n hx hb dX0_need_0 rfl (lv_at hl 1 rfl) ?_
  refine lv_bipush (v := 40) hx hb dX0_need_1 (by decide) ?_
  refine lv_icmp_eq (tgt := 18) hx hb dX0_need_3 (by decide) (fun c9 => absurd c9 (by decide)) (fun _ => ?_)
  refine lv_iload_n hx hb dX0_need_6 rfl (lv_at hl 1 rfl) ?_
  refine lv_bipush (v := 42) hx hb dX0_need_7 (by decide) ?_
  refine lv_icmp_eq (tgt := 18) hx hb dX0_need_9 (by decide) (fun _ => ?_) (fun c9 => absurd c9 (by decide))
  refine lv_iconst (v := 1) hx hb dX0_need_18 (by decide) ?_
  refine lv_goto (tgt := 23) hx hb dX0_need_19 (by decide) ?_
  refine lv_istore_n (lv' := [(2, .int 1), (0, .ref a0), (1, .int 42)]) hx hb dX0_need_23 rfl hl (by decide) rfl (fun ls hl => ?_)
  refine lv_iload_n hx hb dX0_need_24 rfl (lv_at hl 2 rfl) ?_
  refine lv_bipush (v := 41) hx hb dX0_need_25 (by decide) ?_
  refine lv_icmp_eq (tgt := 42) hx hb dX0_need_27 (by decide) (fun c9 => absurd c9 (by decide)) (fun _ => ?_)
  refine lv_iload_n hx hb dX0_need_30 rfl (lv_at hl 2 rfl) ?_
  refine lv_bipush (v := 43) hx hb dX0_need_31 (by decide) ?_
  refine lv_icmp_eq (tgt := 42) hx hb dX0_need_33 (by decide) (fun c9 => absurd c9 (by decide)) (fun _ => ?_)
  refine lv_iload_n hx hb dX0_need_36 rfl (lv_at hl 2 rfl) ?_
  refine lv_bipush (v := 45) hx hb dX0_need_37 (by decide) ?_
  refine lv_icmp_ne (tgt := 46) hx hb dX0_need_39 (by decide) (fun _ => ?_) (fun c9 => absurd c9 (by decide))
  refine lv_iconst (v := 0) hx hb dX0_need_46 (by decide) ?_
  refine lv_istore_n (lv' := [(3, .int 0), (2, .int 1), (0, .ref a0), (1, .int 42)]) hx hb dX0_need_47 rfl hl (by decide) rfl (fun ls hl => ?_)
  refine lv_aload_n hx hb dX0_need_48 rfl (lv_at hl 2 rfl) ?_
  refine va_get (D := (dC, dI)) (ci := 0) (v := .int 0) (C := RX0) (T := TX0) (N := 18) hx hb hts iX0 hown hK hP 0 rfl rfl 14 (by decide) (hts _ k225) (fun _ h9 => h9) rfl dX0_need_49 ?_
  refine lv_iconst (v := (-1)) hx hb dX0_need_52 (by decide) ?_
  refine lv_icmp_eq (tgt := 57) hx hb dX0_need_53 (by decide) (fun c9 => absurd c9 (by decide)) (fun _ => ?_)
  have hP9 := hP.sub (ws' := [(a0, .inr (0, [.ref a1, .ref a2, .ref a3, .ref a4, .ref a5, .ref a6, .ref a7, .ref a8, .ref a9, .ref a10, .int 1, .int 0, .int 0, .int 0, .int 0, .int 0, .int 0, .int 0]))]) [0] rfl
  have hD9 := hD.sub (ws' := [(a0, .inr (0, [.ref a1, .ref a2, .ref a3, .ref a4, .ref a5, .ref a6, .ref a7, .ref a8, .ref a9, .ref a10, .int 1, .int 0, .int 0, .int 0, .int 0, .int 0, .int 0, .int 0]))]) [0] (by decide) rfl
  have hK9 := hK.sub (tys' := []) [] rfl
  refine W.widen (k := 0) (n := 0) (Nat.le_of_ble_eq_true rfl) (Nat.le_of_ble_eq_true rfl) ?_
  exact W.vret hx hb hr (fun t ht hW => ⟨⟨(), rfl, trivial, by rw [ht]; exact hP9, va_K.moved hW.alike hK9, hD9⟩, hS.F ht⟩) hS.2.2 dX0_need_56
set_option maxHeartbeats 4000000 in
set_option maxRecDepth 100000 in
theorem c_X0_readClassHead_1 (l : Launch) (dC : Nat → ClassId) (dI : Nat → Nat → Nat) (a0 : Nat) (a1 : Nat) (a2 : Nat) (a3 : Nat) (a4 : Nat) (a5 : Nat) (a6 : Nat) (a7 : Nat) (a8 : Nat) (a9 : Nat) (a10 : Nat) (g11 : ClassId) (g12 : ClassId) (a13 : Nat) (a14 : Nat) (a15 : Nat) (a16 : Nat) (a17 : Nat) (a18 : Nat) (a19 : Nat) (a20 : Nat) (g21 : ClassId) (g22 : ClassId) (sz : Nat) : Met l yX0_readClassHead (Cond.code yX0_readClassHead cX0_readClassHead 2 none :: wB) { frames := 1, cells := 0, slots := 0, locals := 23 } (va_Pc [.ref a0] (pX (dC, dI) sz [(a0, .inr (0, [.ref a1, .ref a2, .ref a3, .ref a4, .ref a5, .ref a6, .ref a7, .ref a8, .ref a9, .ref a10, .int 0, .int 0, .int 0, .int 0, .int (-1), .int 0, .int 0, .int 0])), (a2, .inl (g11, 224, .inl (fun _ => 0))), (a3, .inl (g12, 224, .inl (fun _ => 0))), (a1, .inr (9, [.ref a13, .ref a14, .ref a15, .ref a16, .ref a17, .ref a18, .ref a19, .int 0, .ref a20, .int 0, .int 3, .int 0])), (a13, .inl (g21, 2003, .inl (upd (upd (upd (fun _ => 0) 0 0) 1 0) 2 0))), (a14, .inl (g22, 2003, .inl (upd (upd (upd (fun _ => 0) 0 0) 1 0) 2 0)))] [(g21, .int), (g22, .int), (g11, .int), (g12, .boolean)])) (va_Qv (fun _ : (Nat → Int32) × (Nat → Int32) => True) (fun z t => qX (dC, dI) [(a2, .inl (g11, 224, .inl z.1)), (a3, .inl (g12, 224, .inl z.2)), (a14, .inl (g22, 2003, .inl (upd (upd (upd (fun _ => 0) 0 0) 1 0) 2 0))), (a1, .inr (9, [.ref a13, .ref a14, .ref a15, .ref a16, .ref a17, .ref a18, .ref a19, .int 0, .ref a20, .int 0, .int 3, .int 0])), (a13, .inl (g21, 2003, .inl (upd (upd (upd (fun _ => 0) 0 0) 1 0) 2 0))), (a0, .inr (0, [.ref a1, .ref a2, .ref a3, .ref a4, .ref a5, .ref a6, .ref a7, .ref a8, .ref a9, .ref a10, .int 1, .int 0, .int 0, .int 0, .int 0, .int 0, .int 0, .int 0]))] [(g21, .int), (g22, .int), (g11, .int), (g12, .boolean)] (va_A [(a0, .inr (0, [.ref a1, .ref a2, .ref a3, .ref a4, .ref a5, .ref a6, .ref a7, .ref a8, .ref a9, .ref a10, .int 0, .int 0, .int 0, .int 0, .int (-1), .int 0, .int 0, .int 0])), (a2, .inl (g11, 224, .inl (fun _ => 0))), (a3, .inl (g12, 224, .inl (fun _ => 0))), (a1, .inr (9, [.ref a13, .ref a14, .ref a15, .ref a16, .ref a17, .ref a18, .ref a19, .int 0, .ref a20, .int 0, .int 3, .int 0])), (a13, .inl (g21, 2003, .inl (upd (upd (upd (fun _ => 0) 0 0) 1 0) 2 0))), (a14, .inl (g22, 2003, .inl (upd (upd (upd (fun _ => 0) 0 0) 1 0) 2 0)))] sz) t) (va_A [(a0, .inr (0, [.ref a1, .ref a2, .ref a3, .ref a4, .ref a5, .ref a6, .ref a7, .ref a8, .ref a9, .ref a10, .int 0, .int 0, .int 0, .int 0, .int (-1), .int 0, .int 0, .int 0])), (a2, .inl (g11, 224, .inl (fun _ => 0))), (a3, .inl (g12, 224, .inl (fun _ => 0))), (a1, .inr (9, [.ref a13, .ref a14, .ref a15, .ref a16, .ref a17, .ref a18, .ref a19, .int 0, .ref a20, .int 0, .int 3, .int 0])), (a13, .inl (g21, 2003, .inl (upd (upd (upd (fun _ => 0) 0 0) 1 0) 2 0))), (a14, .inl (g22, 2003, .inl (upd (upd (upd (fun _ => 0) 0 0) 1 0) 2 0)))] sz)) 0 0 (va_A [(a0, .inr (0, [.ref a1, .ref a2, .ref a3, .ref a4, .ref a5, .ref a6, .ref a7, .ref a8, .ref a9, .ref a10, .int 0, .int 0, .int 0, .int 0, .int (-1), .int 0, .int 0, .int 0])), (a2, .inl (g11, 224, .inl (fun _ => 0))), (a3, .inl (g12, 224, .inl (fun _ => 0))), (a1, .inr (9, [.ref a13, .ref a14, .ref a15, .ref a16, .ref a17, .ref a18, .ref a19, .int 0, .ref a20, .int 0, .int 3, .int 0])), (a13, .inl (g21, 2003, .inl (upd (upd (upd (fun _ => 0) 0 0) 1 0) 2 0))), (a14, .inl (g22, 2003, .inl (upd (upd (upd (fun _ => 0) 0 0) 1 0) 2 0)))] sz) := by
  refine Met.ofW (cc := cX0_readClassHead) (maxL := 2) (ret := none) (by decide) rfl ?_
  intro p e s m args below meth c s₁ B hml hv
  obtain ⟨rfl, hsz, hP, hK, hD0, hN⟩ := hv
  have hx := B.exec
  have hb := B.bytes
  have hr := B.returns
  have hts : ∀ w ∈ wB, w.before _ s = true := fun w h => atoms_spec (ws := Cond.code yX0_readClassHead cX0_readClassHead 2 none :: wB) B.pre w (List.mem_cons_of_mem _ h)
  have hown : s.vm.findClass RX0 = some m.cls := findClass_of_methodNamed B.named
  have hlocks := B.notSynchronized
  subst hsz
  have hD := hD0.self (sz := s.heap.size)
  generalize hAe : va_A [(a0, .inr (0, [.ref a1, .ref a2, .ref a3, .ref a4, .ref a5, .ref a6, .ref a7, .ref a8, .ref a9, .ref a10, .int 0, .int 0, .int 0, .int 0, .int (-1), .int 0, .int 0, .int 0])), (a2, .inl (g11, 224, .inl (fun _ => 0))), (a3, .inl (g12, 224, .inl (fun _ => 0))), (a1, .inr (9, [.ref a13, .ref a14, .ref a15, .ref a16, .ref a17, .ref a18, .ref a19, .int 0, .ref a20, .int 0, .int 3, .int 0])), (a13, .inl (g21, 2003, .inl (upd (upd (upd (fun _ => 0) 0 0) 1 0) 2 0))), (a14, .inl (g22, 2003, .inl (upd (upd (upd (fun _ => 0) 0 0) 1 0) 2 0)))] s.heap.size = A at hD ⊢
  have hA : ∀ q : Nat, s.heap.size ≤ q → A q := fun q h => by rw [← hAe]; exact Or.inr h
  have hS : va_S A s.heap s.heap [] := va_S.rf
  have hP : va_P (dC, dI) vwCl [(a0, .inr (0, [.ref a1, .ref a2, .ref a3, .ref a4, .ref a5, .ref a6, .ref a7, .ref a8, .ref a9, .ref a10, .int 0, .int 0, .int 0, .int 0, .int (-1), .int 0, .int 0, .int 0])), (a2, .inl (g11, 224, .inl (fun _ => 0))), (a3, .inl (g12, 224, .inl (fun _ => 0))), (a1, .inr (9, [.ref a13, .ref a14, .ref a15, .ref a16, .ref a17, .ref a18, .ref a19, .int 0, .ref a20, .int 0, .int 3, .int 0])), (a13, .inl (g21, 2003, .inl (upd (upd (upd (fun _ => 0) 0 0) 1 0) 2 0))), (a14, .inl (g22, 2003, .inl (upd (upd (upd (fun _ => 0) 0 0) 1 0) 2 0)))] s.heap := hP
  have hl := lv_entry ([.ref a0]) (n := 2) (Nat.le_of_ble_eq_true rfl)
  rw [lg_entry_eq]
  generalize (lg_sl ([.ref a0]) ++ List.replicate (2 - (lg_sl ([.ref a0])).length) Slot.unset).toArray = ls at hl ⊢
  have hl : lv_has ls 2 [(0, .ref a0)] := hl
  refine lv_aload_n hx hb dX0_readClassHead_0 rfl (lv_at hl 0 rfl) ?_
  refine lv_bipush (v := 17) hx hb dX0_readClassHead_1 (by decide) ?_
  refine xV_i (n := 1) (As := [.int 17]) (rest := []) (wc := [(a0, .inr (0, [.ref a1, .ref a2, .ref a3, .ref a4, .ref a5, .ref a6, .ref a7, .ref a8, .ref a9, .ref a10, .int 0, .int 0, .int 0, .int 0, .int (-1), .int 0, .int 0, .int 0])), (a1, .inr (9, [.ref a13, .ref a14, .ref a15, .ref a16, .ref a17, .ref a18, .ref a19, .int 0, .ref a20, .int 0, .int 3, .int 0])), (a13, .inl (g21, 2003, .inl (upd (upd (upd (fun _ => 0) 0 0) 1 0) 2 0)))]) (wr := [(a2, .inl (g11, 224, .inl (fun _ => 0))), (a3, .inl (g12, 224, .inl (fun _ => 0))), (a14, .inl (g22, 2003, .inl (upd (upd (upd (fun _ => 0) 0 0) 1 0) 2 0)))]) (tc := [(g21, .int)]) ⟨hx, hb, hml, hown, hts⟩ (c_X0_accept_1 l dC dI a0 a1 a2 a3 a4 a5 a6 a7 a8 a9 a10 a13 a14 a15 a16 a17 a18 a19 a20 g21 s.heap.size) ⟨k229, k230, k231, k31, k232⟩ (by decide +kernel) rfl ⟨Nat.le_of_ble_eq_true rfl, Nat.le_of_ble_eq_true rfl⟩ ⟨Nat.le_of_ble_eq_true rfl, Nat.le_of_ble_eq_true rfl⟩ hK hP hD hS hA hN [0, 3, 4] [1, 2, 5] [0] rfl rfl (by decide) (by decide) rfl 0 rfl rfl hl.1 rfl (Nat.le_of_ble_eq_true rfl) dX0_readClassHead_3 (fun r9 z H locs hw hK hP hD hS => ?_)
  have hK : va_K (dC, dI) vwCl [(g21, .int), (g22, .int), (g11, .int), (g12, .boolean), (g21, .int)] s := hK
  have hP : va_P (dC, dI) vwCl [(a2, .inl (g11, 224, .inl (fun _ => 0))), (a3, .inl (g12, 224, .inl (fun _ => 0))), (a14, .inl (g22, 2003, .inl (upd (upd (upd (fun _ => 0) 0 0) 1 0) 2 0))), (a0, .inr (0, [.ref a1, .ref a2, .ref a3, .ref a4, .ref a5, .ref a6, .ref a7, .ref a8, .ref a9, .ref a10, .int 0, .int 0, .int 0, .int 0, .int (-1), .int 0, .int 0, .int 0])), (a1, .inr (9, [.ref a13, .ref a14, .ref a15, .ref a16, .ref a17, .ref a18, .ref a19, .int 0, .ref a20, .int 0, .int 3, .int 0])), (a13, .inl (g21, 2003, .inl (upd (upd (upd (fun _ => 0) 0 0) 1 0) 2 0)))] H := hP
  have hD : va_D A [(a2, .inl (g11, 224, .inl (fun _ => 0))), (a3, .inl (g12, 224, .inl (fun _ => 0))), (a14, .inl (g22, 2003, .inl (upd (upd (upd (fun _ => 0) 0 0) 1 0) 2 0))), (a0, .inr (0, [.ref a1, .ref a2, .ref a3, .ref a4, .ref a5, .ref a6, .ref a7, .ref a8, .ref a9, .ref a10, .int 0, .int 0, .int 0, .int 0, .int (-1), .int 0, .int 0, .int 0])), (a1, .inr (9, [.ref a13, .ref a14, .ref a15, .ref a16, .ref a17, .ref a18, .ref a19, .int 0, .ref a20, .int 0, .int 3, .int 0])), (a13, .inl (g21, 2003, .inl (upd (upd (upd (fun _ => 0) 0 0) 1 0) 2 0)))] := hD
  refine W.widen (k := 0) (n := 0) (Nat.le_of_ble_eq_true rfl) (Nat.le_of_ble_eq_true rfl) ?_
  refine lv_is 0 hw ?_
  have hK := hK.sub (tys' := [(g21, .int), (g22, .int), (g11, .int), (g12, .boolean)]) [0, 1, 2, 3] rfl
  refine lv_istore_n (lv' := [(1, .int 0), (0, .ref a0)]) hx hb dX0_readClassHead_6 rfl hl (by decide) rfl (fun ls hl => ?_)
  refine lv_aload_n hx hb dX0_readClassHead_7 rfl (lv_at hl 1 rfl) ?_
  refine lv_bipush (v := 11) hx hb dX0_readClassHead_8 (by decide) ?_
  refine xV_v (n := 1) (As := [.int 11]) (rest := []) (wc := [(a14, .inl (g22, 2003, .inl (upd (upd (upd (fun _ => 0) 0 0) 1 0) 2 0))), (a0, .inr (0, [.ref a1, .ref a2, .ref a3, .ref a4, .ref a5, .ref a6, .ref a7, .ref a8, .ref a9, .ref a10, .int 0, .int 0, .int 0, .int 0, .int (-1), .int 0, .int 0, .int 0])), (a1, .inr (9, [.ref a13, .ref a14, .ref a15, .ref a16, .ref a17, .ref a18, .ref a19, .int 0, .ref a20, .int 0, .int 3, .int 0])), (a13, .inl (g21, 2003, .inl (upd (upd (upd (fun _ => 0) 0 0) 1 0) 2 0)))]) (wr := [(a2, .inl (g11, 224, .inl (fun _ => 0))), (a3, .inl (g12, 224, .inl (fun _ => 0)))]) (tc := [(g21, .int), (g22, .int)]) ⟨hx, hb, hml, hown, hts⟩ (c_X0_need_1 l dC dI a0 a14 g22 a1 a2 a3 a4 a5 a6 a7 a8 a9 a10 a13 a15 a16 a17 a18 a19 a20 g21 H.size) ⟨k234, k235, k236, k31, k237⟩ (by decide +kernel) rfl ⟨Nat.le_of_ble_eq_true rfl, Nat.le_of_ble_eq_true rfl⟩ ⟨Nat.le_of_ble_eq_true rfl, Nat.le_of_ble_eq_true rfl⟩ hK hP hD hS hA hN [2, 3, 4, 5] [0, 1] [0, 1] rfl rfl (by decide) (by decide) rfl 1 rfl rfl hl.1 rfl (Nat.le_of_ble_eq_true rfl) dX0_readClassHead_10 (fun z H locs hw hK hP hD hS => ?_)
  have hK : va_K (dC, dI) vwCl [(g21, .int), (g22, .int), (g11, .int), (g12, .boolean), (g21, .int), (g22, .int)] s := hK
  have hP : va_P (dC, dI) vwCl [(a2, .inl (g11, 224, .inl (fun _ => 0))), (a3, .inl (g12, 224, .inl (fun _ => 0))), (a14, .inl (g22, 2003, .inl (upd (upd (upd (fun _ => 0) 0 0) 1 0) 2 0))), (a0, .inr (0, [.ref a1, .ref a2, .ref a3, .ref a4, .ref a5, .ref a6, .ref a7, .ref a8, .ref a9, .ref a10, .int 0, .int 0, .int 0, .int 0, .int 0, .int 0, .int 0, .int 0])), (a1, .inr (9, [.ref a13, .ref a14, .ref a15, .ref a16, .ref a17, .ref a18, .ref a19, .int 0, .ref a20, .int 0, .int 3, .int 0])), (a13, .inl (g21, 2003, .inl (upd (upd (upd (fun _ => 0) 0 0) 1 0) 2 0)))] H := hP
  have hD : va_D A [(a2, .inl (g11, 224, .inl (fun _ => 0))), (a3, .inl (g12, 224, .inl (fun _ => 0))), (a14, .inl (g22, 2003, .inl (upd (upd (upd (fun _ => 0) 0 0) 1 0) 2 0))), (a0, .inr (0, [.ref a1, .ref a2, .ref a3, .ref a4, .ref a5, .ref a6, .ref a7, .ref a8, .ref a9, .ref a10, .int 0, .int 0, .int 0, .int 0, .int 0, .int 0, .int 0, .int 0])), (a1, .inr (9, [.ref a13, .ref a14, .ref a15, .ref a16, .ref a17, .ref a18, .ref a19, .int 0, .ref a20, .int 0, .int 3, .int 0])), (a13, .inl (g21, 2003, .inl (upd (upd (upd (fun _ => 0) 0 0) 1 0) 2 0)))] := hD
  refine W.widen (k := 0) (n := 0) (Nat.le_of_ble_eq_true rfl) (Nat.le_of_ble_eq_true rfl) ?_
  have hK := hK.sub (tys' := [(g21, .int), (g22, .int), (g11, .int), (g12, .boolean)]) [0, 1, 2, 3] rfl
  refine lv_aload_n hx hb dX0_readClassHead_13 rfl (lv_at hl 1 rfl) ?_
  refine va_get (D := (dC, dI)) (ci := 0) (v := .int 0) (C := RX0) (T := TX0) (N := 18) hx hb hts iX0 hown hK hP 3 rfl rfl 10 (by decide) (hts _ k221) (fun _ h9 => h9) rfl dX0_readClassHead_14 ?_
  refine lv_sipush (v := 224) hx hb dX0_readClassHead_17 (by decide) ?_
  refine lv_icmp_ge (tgt := 56) hx hb dX0_readClassHead_20 (by decide) (fun c9 => absurd c9 (by decide)) (fun _ => ?_)
  refine lv_aload_n hx hb dX0_readClassHead_23 rfl (lv_at hl 1 rfl) ?_
  refine va_get (D := (dC, dI)) (ci := 0) (v := .ref a2) (C := RX0) (T := TX0) (N := 18) hx hb hts iX0 hown hK hP 3 rfl rfl 1 (by decide) (hts _ k33) (fun _ h9 => h9) rfl dX0_readClassHead_24 ?_
  refine lv_aload_n hx hb dX0_readClassHead_27 rfl (lv_at hl 1 rfl) ?_
  refine va_get (D := (dC, dI)) (ci := 0) (v := .int 0) (C := RX0) (T := TX0) (N := 18) hx hb hts iX0 hown hK hP 3 rfl rfl 10 (by decide) (hts _ k221) (fun _ h9 => h9) rfl dX0_readClassHead_28 ?_
  refine lv_aload_n hx hb dX0_readClassHead_31 rfl (lv_at hl 1 rfl) ?_
  refine va_get (D := (dC, dI)) (ci := 0) (v := .int 0) (C := RX0) (T := TX0) (N := 18) hx hb hts iX0 hown hK hP 3 rfl rfl 16 (by decide) (hts _ k226) (fun _ h9 => h9) rfl dX0_readClassHead_32 ?_
  refine ia_any hx hb hK hP hD hS 0 2 rfl rfl (inI (by decide)) dX0_readClassHead_35 (fun f1 H locs hP hD hS => ?_)
  have hP : va_P (dC, dI) vwCl [(a2, .inl (g11, 224, .inl f1)), (a3, .inl (g12, 224, .inl (fun _ => 0))), (a14, .inl (g22, 2003, .inl (upd (upd (upd (fun _ => 0) 0 0) 1 0) 2 0))), (a0, .inr (0, [.ref a1, .ref a2, .ref a3, .ref a4, .ref a5, .ref a6, .ref a7, .ref a8, .ref a9, .ref a10, .int 0, .int 0, .int 0, .int 0, .int 0, .int 0, .int 0, .int 0])), (a1, .inr (9, [.ref a13, .ref a14, .ref a15, .ref a16, .ref a17, .ref a18, .ref a19, .int 0, .ref a20, .int 0, .int 3, .int 0])), (a13, .inl (g21, 2003, .inl (upd (upd (upd (fun _ => 0) 0 0) 1 0) 2 0)))] H := hP
  have hD : va_D A [(a2, .inl (g11, 224, .inl f1)), (a3, .inl (g12, 224, .inl (fun _ => 0))), (a14, .inl (g22, 2003, .inl (upd (upd (upd (fun _ => 0) 0 0) 1 0) 2 0))), (a0, .inr (0, [.ref a1, .ref a2, .ref a3, .ref a4, .ref a5, .ref a6, .ref a7, .ref a8, .ref a9, .ref a10, .int 0, .int 0, .int 0, .int 0, .int 0, .int 0, .int 0, .int 0])), (a1, .inr (9, [.ref a13, .ref a14, .ref a15, .ref a16, .ref a17, .ref a18, .ref a19, .int 0, .ref a20, .int 0, .int 3, .int 0])), (a13, .inl (g21, 2003, .inl (upd (upd (upd (fun _ => 0) 0 0) 1 0) 2 0)))] := hD
  refine lv_aload_n hx hb dX0_readClassHead_36 rfl (lv_at hl 1 rfl) ?_
  refine va_get (D := (dC, dI)) (ci := 0) (v := .ref a3) (C := RX0) (T := TX0) (N := 18) hx hb hts iX0 hown hK hP 3 rfl rfl 2 (by decide) (hts _ k35) (fun _ h9 => h9) rfl dX0_readClassHead_37 ?_
  refine lv_aload_n hx hb dX0_readClassHead_40 rfl (lv_at hl 1 rfl) ?_
  refine va_get (D := (dC, dI)) (ci := 0) (v := .int 0) (C := RX0) (T := TX0) (N := 18) hx hb hts iX0 hown hK hP 3 rfl rfl 10 (by decide) (hts _ k221) (fun _ h9 => h9) rfl dX0_readClassHead_41 ?_
  refine lv_iload_n hx hb dX0_readClassHead_44 rfl (lv_at hl 0 rfl) ?_
  refine za_any hx hb hK hP hD hS 1 3 rfl rfl (inI (by decide)) dX0_readClassHead_45 (fun f2 H locs hP hD hS => ?_)
  have hP : va_P (dC, dI) vwCl [(a2, .inl (g11, 224, .inl f1)), (a3, .inl (g12, 224, .inl f2)), (a14, .inl (g22, 2003, .inl (upd (upd (upd (fun _ => 0) 0 0) 1 0) 2 0))), (a0, .inr (0, [.ref a1, .ref a2, .ref a3, .ref a4, .ref a5, .ref a6, .ref a7, .ref a8, .ref a9, .ref a10, .int 0, .int 0, .int 0, .int 0, .int 0, .int 0, .int 0, .int 0])), (a1, .inr (9, [.ref a13, .ref a14, .ref a15, .ref a16, .ref a17, .ref a18, .ref a19, .int 0, .ref a20, .int 0, .int 3, .int 0])), (a13, .inl (g21, 2003, .inl (upd (upd (upd (fun _ => 0) 0 0) 1 0) 2 0)))] H := hP
  have hD : va_D A [(a2, .inl (g11, 224, .inl f1)), (a3, .inl (g12, 224, .inl f2)), (a14, .inl (g22, 2003, .inl (upd (upd (upd (fun _ => 0) 0 0) 1 0) 2 0))), (a0, .inr (0, [.ref a1, .ref a2, .ref a3, .ref a4, .ref a5, .ref a6, .ref a7, .ref a8, .ref a9, .ref a10, .int 0, .int 0, .int 0, .int 0, .int 0, .int 0, .int 0, .int 0])), (a1, .inr (9, [.ref a13, .ref a14, .ref a15, .ref a16, .ref a17, .ref a18, .ref a19, .int 0, .ref a20, .int 0, .int 3, .int 0])), (a13, .inl (g21, 2003, .inl (upd (upd (upd (fun _ => 0) 0 0) 1 0) 2 0)))] := hD
  refine lv_aload_n hx hb dX0_readClassHead_46 rfl (lv_at hl 1 rfl) ?_
  refine lv_dup hx hb dX0_readClassHead_47 rfl ?_
  refine va_get (D := (dC, dI)) (ci := 0) (v := .int 0) (C := RX0) (T := TX0) (N := 18) hx hb hts iX0 hown hK hP 3 rfl rfl 10 (by decide) (hts _ k221) (fun _ h9 => h9) rfl dX0_readClassHead_48 ?_
  refine lv_iconst (v := 1) hx hb dX0_readClassHead_51 (by decide) ?_
  refine lv_iadd hx hb dX0_readClassHead_52 ?_
  refine lv_is 1 (by decide) ?_
  refine va_put (D := (dC, dI)) (ci := 0) (v := .int 1) (ty := .int) (C := RX0) (T := TX0) (N := 18) hx hb hts iX0 tyX0 tyX0_ok nmX0 hown hK hP hD hS 3 rfl rfl 10 (by decide) (hts _ k221) (fun _ h9 => h9) rfl (by decide +kernel) rfl rfl (Nat.le_of_ble_eq_true rfl) dX0_readClassHead_53 (fun H locs hP hD hS => ?_)
  have hP : va_P (dC, dI) vwCl [(a2, .inl (g11, 224, .inl f1)), (a3, .inl (g12, 224, .inl f2)), (a14, .inl (g22, 2003, .inl (upd (upd (upd (fun _ => 0) 0 0) 1 0) 2 0))), (a0, .inr (0, [.ref a1, .ref a2, .ref a3, .ref a4, .ref a5, .ref a6, .ref a7, .ref a8, .ref a9, .ref a10, .int 1, .int 0, .int 0, .int 0, .int 0, .int 0, .int 0, .int 0])), (a1, .inr (9, [.ref a13, .ref a14, .ref a15, .ref a16, .ref a17, .ref a18, .ref a19, .int 0, .ref a20, .int 0, .int 3, .int 0])), (a13, .inl (g21, 2003, .inl (upd (upd (upd (fun _ => 0) 0 0) 1 0) 2 0)))] H := hP
  have hD : va_D A [(a2, .inl (g11, 224, .inl f1)), (a3, .inl (g12, 224, .inl f2)), (a14, .inl (g22, 2003, .inl (upd (upd (upd (fun _ => 0) 0 0) 1 0) 2 0))), (a0, .inr (0, [.ref a1, .ref a2, .ref a3, .ref a4, .ref a5, .ref a6, .ref a7, .ref a8, .ref a9, .ref a10, .int 1, .int 0, .int 0, .int 0, .int 0, .int 0, .int 0, .int 0])), (a1, .inr (9, [.ref a13, .ref a14, .ref a15, .ref a16, .ref a17, .ref a18, .ref a19, .int 0, .ref a20, .int 0, .int 3, .int 0])), (a13, .inl (g21, 2003, .inl (upd (upd (upd (fun _ => 0) 0 0) 1 0) 2 0)))] := hD
  refine lv_aload_n hx hb dX0_readClassHead_56 rfl (lv_at hl 1 rfl) ?_
  refine lv_iconst (v := 2) hx hb dX0_readClassHead_57 (by decide) ?_
  refine xV_v (n := 1) (As := [.int 2]) (rest := []) (wc := [(a0, .inr (0, [.ref a1, .ref a2, .ref a3, .ref a4, .ref a5, .ref a6, .ref a7, .ref a8, .ref a9, .ref a10, .int 1, .int 0, .int 0, .int 0, .int 0, .int 0, .int 0, .int 0]))]) (wr := [(a2, .inl (g11, 224, .inl f1)), (a3, .inl (g12, 224, .inl f2)), (a14, .inl (g22, 2003, .inl (upd (upd (upd (fun _ => 0) 0 0) 1 0) 2 0))), (a1, .inr (9, [.ref a13, .ref a14, .ref a15, .ref a16, .ref a17, .ref a18, .ref a19, .int 0, .ref a20, .int 0, .int 3, .int 0])), (a13, .inl (g21, 2003, .inl (upd (upd (upd (fun _ => 0) 0 0) 1 0) 2 0)))]) (tc := []) ⟨hx, hb, hml, hown, hts⟩ (c_X0_need_2 l dC dI a0 a1 a2 a3 a4 a5 a6 a7 a8 a9 a10 H.size) ⟨k234, k235, k236, k31, k237⟩ (by decide +kernel) rfl ⟨Nat.le_of_ble_eq_true rfl, Nat.le_of_ble_eq_true rfl⟩ ⟨Nat.le_of_ble_eq_true rfl, Nat.le_of_ble_eq_true rfl⟩ hK hP hD hS hA hN [3] [0, 1, 2, 4, 5] [] rfl rfl (by decide) (by decide) rfl 0 rfl rfl hl.1 rfl (Nat.le_of_ble_eq_true rfl) dX0_readClassHead_58 (fun z H locs hw hK hP hD hS => ?_)
  have hK : va_K (dC, dI) vwCl [(g21, .int), (g22, .int), (g11, .int), (g12, .boolean)] s := hK
  have hP : va_P (dC, dI) vwCl [(a2, .inl (g11, 224, .inl f1)), (a3, .inl (g12, 224, .inl f2)), (a14, .inl (g22, 2003, .inl (upd (upd (upd (fun _ => 0) 0 0) 1 0) 2 0))), (a1, .inr (9, [.ref a13, .ref a14, .ref a15, .ref a16, .ref a17, .ref a18, .ref a19, .int 0, .ref a20, .int 0, .int 3, .int 0])), (a13, .inl (g21, 2003, .inl (upd (upd (upd (fun _ => 0) 0 0) 1 0) 2 0))), (a0, .inr (0, [.ref a1, .ref a2, .ref a3, .ref a4, .ref a5, .ref a6, .ref a7, .ref a8, .ref a9, .ref a10, .int 1, .int 0, .int 0, .int 0, .int 0, .int 0, .int 0, .int 0]))] H := hP
  have hD : va_D A [(a2, .inl (g11, 224, .inl f1)), (a3, .inl (g12, 224, .inl f2)), (a14, .inl (g22, 2003, .inl (upd (upd (upd (fun _ => 0) 0 0) 1 0) 2 0))), (a1, .inr (9, [.ref a13, .ref a14, .ref a15, .ref a16, .ref a17, .ref a18, .ref a19, .int 0, .ref a20, .int 0, .int 3, .int 0])), (a13, .inl (g21, 2003, .inl (upd (upd (upd (fun _ => 0) 0 0) 1 0) 2 0))), (a0, .inr (0, [.ref a1, .ref a2, .ref a3, .ref a4, .ref a5, .ref a6, .ref a7, .ref a8, .ref a9, .ref a10, .int 1, .int 0, .int 0, .int 0, .int 0, .int 0, .int 0, .int 0]))] := hD
  refine W.widen (k := 0) (n := 0) (Nat.le_of_ble_eq_true rfl) (Nat.le_of_ble_eq_true rfl) ?_
  refine lv_aload_n hx hb dX0_readClassHead_61 rfl (lv_at hl 1 rfl) ?_
  refine lv_bipush (v := 42) hx hb dX0_readClassHead_62 (by decide) ?_
  refine xV_v (n := 1) (As := [.int 42]) (rest := []) (wc := [(a0, .inr (0, [.ref a1, .ref a2, .ref a3, .ref a4, .ref a5, .ref a6, .ref a7, .ref a8, .ref a9, .ref a10, .int 1, .int 0, .int 0, .int 0, .int 0, .int 0, .int 0, .int 0]))]) (wr := [(a2, .inl (g11, 224, .inl f1)), (a3, .inl (g12, 224, .inl f2)), (a14, .inl (g22, 2003, .inl (upd (upd (upd (fun _ => 0) 0 0) 1 0) 2 0))), (a1, .inr (9, [.ref a13, .ref a14, .ref a15, .ref a16, .ref a17, .ref a18, .ref a19, .int 0, .ref a20, .int 0, .int 3, .int 0])), (a13, .inl (g21, 2003, .inl (upd (upd (upd (fun _ => 0) 0 0) 1 0) 2 0)))]) (tc := []) ⟨hx, hb, hml, hown, hts⟩ (c_X0_need_3 l dC dI a0 a1 a2 a3 a4 a5 a6 a7 a8 a9 a10 H.size) ⟨k234, k235, k236, k31, k237⟩ (by decide +kernel) rfl ⟨Nat.le_of_ble_eq_true rfl, Nat.le_of_ble_eq_true rfl⟩ ⟨Nat.le_of_ble_eq_true rfl, Nat.le_of_ble_eq_true rfl⟩ hK hP hD hS hA hN [5] [0, 1, 2, 3, 4] [] rfl rfl (by decide) (by decide) rfl 0 rfl rfl hl.1 rfl (Nat.le_of_ble_eq_true rfl) dX0_readClassHead_64 (fun z H locs hw hK hP hD hS => ?_)
  have hK : va_K (dC, dI) vwCl [(g21, .int), (g22, .int), (g11, .int), (g12, .boolean)] s := hK
  have hP : va_P (dC, dI) vwCl [(a2, .inl (g11, 224, .inl f1)), (a3, .inl (g12, 224, .inl f2)), (a14, .inl (g22, 2003, .inl (upd (upd (upd (fun _ => 0) 0 0) 1 0) 2 0))), (a1, .inr (9, [.ref a13, .ref a14, .ref a15, .ref a16, .ref a17, .ref a18, .ref a19, .int 0, .ref a20, .int 0, .int 3, .int 0])), (a13, .inl (g21, 2003, .inl (upd (upd (upd (fun _ => 0) 0 0) 1 0) 2 0))), (a0, .inr (0, [.ref a1, .ref a2, .ref a3, .ref a4, .ref a5, .ref a6, .ref a7, .ref a8, .ref a9, .ref a10, .int 1, .int 0, .int 0, .int 0, .int 0, .int 0, .int 0, .int 0]))] H := hP
  have hD : va_D A [(a2, .inl (g11, 224, .inl f1)), (a3, .inl (g12, 224, .inl f2)), (a14, .inl (g22, 2003, .inl (upd (upd (upd (fun _ => 0) 0 0) 1 0) 2 0))), (a1, .inr (9, [.ref a13, .ref a14, .ref a15, .ref a16, .ref a17, .ref a18, .ref a19, .int 0, .ref a20, .int 0, .int 3, .int 0])), (a13, .inl (g21, 2003, .inl (upd (upd (upd (fun _ => 0) 0 0) 1 0) 2 0))), (a0, .inr (0, [.ref a1, .ref a2, .ref a3, .ref a4, .ref a5, .ref a6, .ref a7, .ref a8, .ref a9, .ref a10, .int 1, .int 0, .int 0, .int 0, .int 0, .int 0, .int 0, .int 0]))] := hD
  refine W.widen (k := 0) (n := 0) (Nat.le_of_ble_eq_true rfl) (Nat.le_of_ble_eq_true rfl) ?_
  refine lv_aload_n hx hb dX0_readClassHead_67 rfl (lv_at hl 1 rfl) ?_
  refine lv_iconst (v := 0) hx hb dX0_readClassHead_68 (by decide) ?_
  refine va_put (D := (dC, dI)) (ci := 0) (v := .int 0) (ty := .int) (C := RX0) (T := TX0) (N := 18) hx hb hts iX0 tyX0 tyX0_ok nmX0 hown hK hP hD hS 5 rfl rfl 15 (by decide) (hts _ k238) (fun _ h9 => h9) rfl (by decide +kernel) rfl rfl (Nat.le_of_ble_eq_true rfl) dX0_readClassHead_69 (fun H locs hP hD hS => ?_)
  have hP : va_P (dC, dI) vwCl [(a2, .inl (g11, 224, .inl f1)), (a3, .inl (g12, 224, .inl f2)), (a14, .inl (g22, 2003, .inl (upd (upd (upd (fun _ => 0) 0 0) 1 0) 2 0))), (a1, .inr (9, [.ref a13, .ref a14, .ref a15, .ref a16, .ref a17, .ref a18, .ref a19, .int 0, .ref a20, .int 0, .int 3, .int 0])), (a13, .inl (g21, 2003, .inl (upd (upd (upd (fun _ => 0) 0 0) 1 0) 2 0))), (a0, .inr (0, [.ref a1, .ref a2, .ref a3, .ref a4, .ref a5, .ref a6, .ref a7, .ref a8, .ref a9, .ref a10, .int 1, .int 0, .int 0, .int 0, .int 0, .int 0, .int 0, .int 0]))] H := hP
  have hD : va_D A [(a2, .inl (g11, 224, .inl f1)), (a3, .inl (g12, 224, .inl f2)), (a14, .inl (g22, 2003, .inl (upd (upd (upd (fun _ => 0) 0 0) 1 0) 2 0))), (a1, .inr (9, [.ref a13, .ref a14, .ref a15, .ref a16, .ref a17, .ref a18, .ref a19, .int 0, .ref a20, .int 0, .int 3, .int 0])), (a13, .inl (g21, 2003, .inl (upd (upd (upd (fun _ => 0) 0 0) 1 0) 2 0))), (a0, .inr (0, [.ref a1, .ref a2, .ref a3, .ref a4, .ref a5, .ref a6, .ref a7, .ref a8, .ref a9, .ref a10, .int 1, .int 0, .int 0, .int 0, .int 0, .int 0, .int 0, .int 0]))] := hD
  have hP9 := hP.sub (ws' := [(a2, .inl (g11, 224, .inl f1)), (a3, .inl (g12, 224, .inl f2)), (a14, .inl (g22, 2003, .inl (upd (upd (upd (fun _ => 0) 0 0) 1 0) 2 0))), (a1, .inr (9, [.ref a13, .ref a14, .ref a15, .ref a16, .ref a17, .ref a18, .ref a19, .int 0, .ref a20, .int 0, .int 3, .int 0])), (a13, .inl (g21, 2003, .inl (upd (upd (upd (fun _ => 0) 0 0) 1 0) 2 0))), (a0, .inr (0, [.ref a1, .ref a2, .ref a3, .ref a4, .ref a5, .ref a6, .ref a7, .ref a8, .ref a9, .ref a10, .int 1, .int 0, .int 0, .int 0, .int 0, .int 0, .int 0, .int 0]))]) [0, 1, 2, 3, 4, 5] rfl
  have hD9 := hD.sub (ws' := [(a2, .inl (g11, 224, .inl f1)), (a3, .inl (g12, 224, .inl f2)), (a14, .inl (g22, 2003, .inl (upd (upd (upd (fun _ => 0) 0 0) 1 0) 2 0))), (a1, .inr (9, [.ref a13, .ref a14, .ref a15, .ref a16, .ref a17, .ref a18, .ref a19, .int 0, .ref a20, .int 0, .int 3, .int 0])), (a13, .inl (g21, 2003, .inl (upd (upd (upd (fun _ => 0) 0 0) 1 0) 2 0))), (a0, .inr (0, [.ref a1, .ref a2, .ref a3, .ref a4, .ref a5, .ref a6, .ref a7, .ref a8, .ref a9, .ref a10, .int 1, .int 0, .int 0, .int 0, .int 0, .int 0, .int 0, .int 0]))]) [0, 1, 2, 3, 4, 5] (by decide) rfl
  have hK9 := hK.sub (tys' := [(g21, .int), (g22, .int), (g11, .int), (g12, .boolean)]) [0, 1, 2, 3] rfl
  refine W.widen (k := 0) (n := 0) (Nat.le_of_ble_eq_true rfl) (Nat.le_of_ble_eq_true rfl) ?_
  exact W.vret hx hb hr (fun t ht hW => ⟨⟨(f1, f2), rfl, trivial, by rw [ht]; exact hP9, va_K.moved hW.alike hK9, hD9⟩, hS.F ht⟩) hS.2.2 dX0_readClassHead_72
set_option maxHeartbeats 4000000 in
set_option maxRecDepth 100000 in
theorem c_X0_isGood_1 (l : Launch) (dC : Nat → ClassId) (dI : Nat → Nat → Nat) (a0 : Nat) (a1 : Nat) (a2 : Nat) (a3 : Nat) (a4 : Nat) (a5 : Nat) (a6 : Nat) (a7 : Nat) (a8 : Nat) (a9 : Nat) (a10 : Nat) (sz : Nat) : Met l yX0_isGood (Cond.code yX0_isGood cX0_isGood 1 (some .boolean) :: wB) { frames := 0, cells := 0, slots := 0, locals := 0 } (va_Pc [.ref a0] (pX (dC, dI) sz [(a0, .inr (0, [.ref a1, .ref a2, .ref a3, .ref a4, .ref a5, .ref a6, .ref a7, .ref a8, .ref a9, .ref a10, .int 1, .int 0, .int 0, .int 0, .int 0, .int 0, .int 0, .int 0]))] [])) (va_Qi (fun (r : Int32) (z : Unit) => r = 0) (fun z t => qX (dC, dI) [(a0, .inr (0, [.ref a1, .ref a2, .ref a3, .ref a4, .ref a5, .ref a6, .ref a7, .ref a8, .ref a9, .ref a10, .int 1, .int 0, .int 0, .int 0, .int 0, .int 0, .int 0, .int 0]))] [] (va_A [(a0, .inr (0, [.ref a1, .ref a2, .ref a3, .ref a4, .ref a5, .ref a6, .ref a7, .ref a8, .ref a9, .ref a10, .int 1, .int 0, .int 0, .int 0, .int 0, .int 0, .int 0, .int 0]))] sz) t) (va_A [(a0, .inr (0, [.ref a1, .ref a2, .ref a3, .ref a4, .ref a5, .ref a6, .ref a7, .ref a8, .ref a9, .ref a10, .int 1, .int 0, .int 0, .int 0, .int 0, .int 0, .int 0, .int 0]))] sz)) 0 0 (va_A [(a0, .inr (0, [.ref a1, .ref a2, .ref a3, .ref a4, .ref a5, .ref a6, .ref a7, .ref a8, .ref a9, .ref a10, .int 1, .int 0, .int 0, .int 0, .int 0, .int 0, .int 0, .int 0]))] sz) := by
  refine Met.ofW (cc := cX0_isGood) (maxL := 1) (ret := (some .boolean)) (by decide) rfl ?_
  intro p e s m args below meth c s₁ B hml hv
  obtain ⟨rfl, hsz, hP, hK, hD0, hN⟩ := hv
  have hx := B.exec
  have hb := B.bytes
  have hr := B.returns
  have hts : ∀ w ∈ wB, w.before _ s = true := fun w h => atoms_spec (ws := Cond.code yX0_isGood cX0_isGood 1 (some .boolean) :: wB) B.pre w (List.mem_cons_of_mem _ h)
  have hown : s.vm.findClass RX0 = some m.cls := findClass_of_methodNamed B.named
  have hlocks := B.notSynchronized
  subst hsz
  have hD := hD0.self (sz := s.heap.size)
  generalize hAe : va_A [(a0, .inr (0, [.ref a1, .ref a2, .ref a3, .ref a4, .ref a5, .ref a6, .ref a7, .ref a8, .ref a9, .ref a10, .int 1, .int 0, .int 0, .int 0, .int 0, .int 0, .int 0, .int 0]))] s.heap.size = A at hD ⊢
  have hA : ∀ q : Nat, s.heap.size ≤ q → A q := fun q h => by rw [← hAe]; exact Or.inr h
  have hS : va_S A s.heap s.heap [] := va_S.rf
  have hP : va_P (dC, dI) vwCl [(a0, .inr (0, [.ref a1, .ref a2, .ref a3, .ref a4, .ref a5, .ref a6, .ref a7, .ref a8, .ref a9, .ref a10, .int 1, .int 0, .int 0, .int 0, .int 0, .int 0, .int 0, .int 0]))] s.heap := hP
  have hl := lv_entry ([.ref a0]) (n := 1) (Nat.le_of_ble_eq_true rfl)
  rw [lg_entry_eq]
  generalize (lg_sl ([.ref a0]) ++ List.replicate (1 - (lg_sl ([.ref a0])).length) Slot.unset).toArray = ls at hl ⊢
  have hl : lv_has ls 1 [(0, .ref a0)] := hl
  refine lv_aload_n hx hb dX0_isGood_0 rfl (lv_at hl 0 rfl) ?_
  refine va_get (D := (dC, dI)) (ci := 0) (v := .int 0) (C := RX0) (T := TX0) (N := 18) hx hb hts iX0 hown hK hP 0 rfl rfl 14 (by decide) (hts _ k225) (fun _ h9 => h9) rfl dX0_isGood_1 ?_
  refine lv_iconst (v := (-1)) hx hb dX0_isGood_4 (by decide) ?_
  refine lv_icmp_ne (tgt := 12) hx hb dX0_isGood_5 (by decide) (fun _ => ?_) (fun c9 => absurd c9 (by decide))
  refine lv_iconst (v := 0) hx hb dX0_isGood_12 (by decide) ?_
  have hP9 := hP.sub (ws' := [(a0, .inr (0, [.ref a1, .ref a2, .ref a3, .ref a4, .ref a5, .ref a6, .ref a7, .ref a8, .ref a9, .ref a10, .int 1, .int 0, .int 0, .int 0, .int 0, .int 0, .int 0, .int 0]))]) [0] rfl
  have hD9 := hD.sub (ws' := [(a0, .inr (0, [.ref a1, .ref a2, .ref a3, .ref a4, .ref a5, .ref a6, .ref a7, .ref a8, .ref a9, .ref a10, .int 1, .int 0, .int 0, .int 0, .int 0, .int 0, .int 0, .int 0]))]) [0] (by decide) rfl
  have hK9 := hK.sub (tys' := []) [] rfl
  refine W.widen (k := 0) (n := 0) (Nat.le_of_ble_eq_true rfl) (Nat.le_of_ble_eq_true rfl) ?_
  exact W.zret (v := 0) hx hb hr rfl (fun t ht hW => ⟨⟨0, (), rfl, rfl, by rw [ht]; exact hP9, va_K.moved hW.alike hK9, hD9⟩, hS.F ht⟩) hS.2.2 dX0_isGood_13
set_option maxHeartbeats 4000000 in
set_option maxRecDepth 100000 in
theorem c_X0_need_4 (l : Launch) (dC : Nat → ClassId) (dI : Nat → Nat → Nat) (a0 : Nat) (a1 : Nat) (a2 : Nat) (a3 : Nat) (a4 : Nat) (a5 : Nat) (a6 : Nat) (a7 : Nat) (a8 : Nat) (a9 : Nat) (a10 : Nat) (sz : Nat) : Met l yX0_need (Cond.code yX0_need cX0_need 4 none :: wB) { frames := 0, cells := 0, slots := 0, locals := 0 } (va_Pc [.ref a0, .int 43] (pX (dC, dI) sz [(a0, .inr (0, [.ref a1, .ref a2, .ref a3, .ref a4, .ref a5, .ref a6, .ref a7, .ref a8, .ref a9, .ref a10, .int 1, .int 0, .int 0, .int 0, .int 0, .int 0, .int 0, .int 0]))] [])) (va_Qv (fun _ : Unit => True) (fun z t => qX (dC, dI) [(a0, .inr (0, [.ref a1, .ref a2, .ref a3, .ref a4, .ref a5, .ref a6, .ref a7, .ref a8, .ref a9, .ref a10, .int 1, .int 0, .int 0, .int 0, .int 0, .int 0, .int 0, .int 0]))] [] (va_A [(a0, .inr (0, [.ref a1, .ref a2, .ref a3, .ref a4, .ref a5, .ref a6, .ref a7, .ref a8, .ref a9, .ref a10, .int 1, .int 0, .int 0, .int 0, .int 0, .int 0, .int 0, .int 0]))] sz) t) (va_A [(a0, .inr (0, [.ref a1, .ref a2, .ref a3, .ref a4, .ref a5, .ref a6, .ref a7, .ref a8, .ref a9, .ref a10, .int 1, .int 0, .int 0, .int 0, .int 0, .int 0, .int 0, .int 0]))] sz)) 0 0 (va_A [(a0, .inr (0, [.ref a1, .ref a2, .ref a3, .ref a4, .ref a5, .ref a6, .ref a7, .ref a8, .ref a9, .ref a10, .int 1, .int 0, .int 0, .int 0, .int 0, .int 0, .int 0, .int 0]))] sz) := by
  refine Met.ofW (cc := cX0_need) (maxL := 4) (ret := none) (by decide) rfl ?_
  intro p e s m args below meth c s₁ B hml hv
  obtain ⟨rfl, hsz, hP, hK, hD0, hN⟩ := hv
  have hx := B.exec
  have hb := B.bytes
  have hr := B.returns
  have hts : ∀ w ∈ wB, w.before _ s = true := fun w h => atoms_spec (ws := Cond.code yX0_need cX0_need 4 none :: wB) B.pre w (List.mem_cons_of_mem _ h)
  have hown : s.vm.findClass RX0 = some m.cls := findClass_of_methodNamed B.named
  have hlocks := B.notSynchronized
  subst hsz
  have hD := hD0.self (sz := s.heap.size)
  generalize hAe : va_A [(a0, .inr (0, [.ref a1, .ref a2, .ref a3, .ref a4, .ref a5, .ref a6, .ref a7, .ref a8, .ref a9, .ref a10, .int 1, .int 0, .int 0, .int 0, .int 0, .int 0, .int 0, .int 0]))] s.heap.size = A at hD ⊢
  have hA : ∀ q : Nat, s.heap.size ≤ q → A q := fun q h => by rw [← hAe]; exact Or.inr h
  have hS : va_S A s.heap s.heap [] := va_S.rf
  have hP : va_P (dC, dI) vwCl [(a0, .inr (0, [.ref a1, .ref a2, .ref a3, .ref a4, .ref a5, .ref a6, .ref a7, .ref a8, .ref a9, .ref a10, .int 1, .int 0, .int 0, .int 0, .int 0, .int 0, .int 0, .int 0]))] s.heap := hP
  have hl := lv_entry ([.ref a0, .int 43]) (n := 4) (Nat.le_of_ble_eq_true rfl)
  rw [lg_entry_eq]
  generalize (lg_sl ([.ref a0, .int 43]) ++ List.replicate (4 - (lg_sl ([.ref a0, .int 43])).length) Slot.unset).toArray = ls at hl ⊢
  have hl : lv_has ls 4 [(0, .ref a0), (1, .int 43)] := hl
  refine lv_iload_n hx hb dX0_need_0 rfl (lv_at hl 1 rfl) ?_
  refine lv_bipush (v := 40) hx hb dX0_need_1 (by decide) ?_
  refine lv_icmp_eq (tgt := 18) hx hb dX0_need_3 (by decide) (fun c9 => absurd c9 (by decide)) (fun _ => ?_)
  refine lv_iload_n hx hb dX0_need_6 rfl (lv_at hl 1 rfl) ?_
  refine lv_bipush (v := 42) hx hb dX0_need_7 (by decide) ?_
  refine lv_icmp_eq (tgt := 18) hx hb dX0_need_9 (by decide) (fun c9 => absurd c9 (by decide)) (fun _ => ?_)
  refine lv_iload_n hx hb dX0_need_12 rfl (lv_at hl 1 rfl) ?_
  refine lv_bipush (v := 44) hx hb dX0_need_13 (by decide) ?_
  refine lv_icmp_ne (tgt := 22) hx hb dX0_need_15 (by decide) (fun _ => ?_) (fun c9 => absurd c9 (by decide))
  refine lv_iconst (v := 0) hx hb dX0_need_22 (by decide) ?_
  refine lv_istore_n (lv' := [(2, .int 0), (0, .ref a0), (1, .int 43)]) hx hb dX0_need_23 rfl hl (by decide) rfl (fun ls hl => ?_)
  refine lv_iload_n hx hb dX0_need_24 rfl (lv_at hl 2 rfl) ?_
  refine lv_bipush (v := 41) hx hb dX0_need_25 (by decide) ?_
  refine lv_icmp_eq (tgt := 42) hx hb dX0_need_27 (by decide) (fun c9 => absurd c9 (by decide)) (fun _ => ?_)
  refine lv_iload_n hx hb dX0_need_30 rfl (lv_at hl 2 rfl) ?_
  refine lv_bipush (v := 43) hx hb dX0_need_31 (by decide) ?_
  refine lv_icmp_eq (tgt := 42) hx hb dX0_need_33 (by decide) (fun _ => ?_) (fun c9 => absurd c9 (by decide))
  refine lv_iconst (v := 1) hx hb dX0_need_42 (by decide) ?_
  refine lv_goto (tgt := 47) hx hb dX0_need_43 (by decide) ?_
  refine lv_istore_n (lv' := [(3, .int 1), (2, .int 0), (0, .ref a0), (1, .int 43)]) hx hb dX0_need_47 rfl hl (by decide) rfl (fun ls hl => ?_)
  refine lv_aload_n hx hb dX0_need_48 rfl (lv_at hl 2 rfl) ?_
  refine va_get (D := (dC, dI)) (ci := 0) (v := .int 0) (C := RX0) (T := TX0) (N := 18) hx hb hts iX0 hown hK hP 0 rfl rfl 14 (by decide) (hts _ k225) (fun _ h9 => h9) rfl dX0_need_49 ?_
  refine lv_iconst (v := (-1)) hx hb dX0_need_52 (by decide) ?_
  refine lv_icmp_eq (tgt := 57) hx hb dX0_need_53 (by decide) (fun c9 => absurd c9 (by decide)) (fun _ => ?_)
  have hP9 := hP.sub (ws' := [(a0, .inr (0, [.ref a1, .ref a2, .ref a3, .ref a4, .ref a5, .ref a6, .ref a7, .ref a8, .ref a9, .ref a10, .int 1, .int 0, .int 0, .int 0, .int 0, .int 0, .int 0, .int 0]))]) [0] rfl
  have hD9 := hD.sub (ws' := [(a0, .inr (0, [.ref a1, .ref a2, .ref a3, .ref a4, .ref a5, .ref a6, .ref a7, .ref a8, .ref a9, .ref a10, .int 1, .int 0, .int 0, .int 0, .int 0, .int 0, .int 0, .int 0]))]) [0] (by decide) rfl
  have hK9 := hK.sub (tys' := []) [] rfl
  refine W.widen (k := 0) (n := 0) (Nat.le_of_ble_eq_true rfl) (Nat.le_of_ble_eq_true rfl) ?_
  exact W.vret hx hb hr (fun t ht hW => ⟨⟨(), rfl, trivial, by rw [ht]; exact hP9, va_K.moved hW.alike hK9, hD9⟩, hS.F ht⟩) hS.2.2 dX0_need_56
set_option maxHeartbeats 4000000 in
set_option maxRecDepth 100000 in
theorem c_X0_readProgram_1 (l : Launch) (dC : Nat → ClassId) (dI : Nat → Nat → Nat) (a0 : Nat) (a1 : Nat) (a2 : Nat) (a3 : Nat) (a4 : Nat) (a5 : Nat) (a6 : Nat) (a7 : Nat) (a8 : Nat) (a9 : Nat) (a10 : Nat) (g11 : ClassId) (g12 : ClassId) (a13 : Nat) (a14 : Nat) (a15 : Nat) (a16 : Nat) (a17 : Nat) (a18 : Nat) (a19 : Nat) (a20 : Nat) (g21 : ClassId) (g22 : ClassId) (sz : Nat) : Met l yX0_readProgram (Cond.code yX0_readProgram cX0_readProgram 4 none :: wB) { frames := 2, cells := 0, slots := 0, locals := 44 } (va_Pc [.ref a0] (pX (dC, dI) sz [(a0, .inr (0, [.ref a1, .ref a2, .ref a3, .ref a4, .ref a5, .ref a6, .ref a7, .ref a8, .ref a9, .ref a10, .int 0, .int 0, .int 0, .int 0, .int 0, .int 0, .int 0, .int 0])), (a2, .inl (g11, 224, .inl (fun _ => 0))), (a3, .inl (g12, 224, .inl (fun _ => 0))), (a1, .inr (9, [.ref a13, .ref a14, .ref a15, .ref a16, .ref a17, .ref a18, .ref a19, .int 0, .ref a20, .int 0, .int 3, .int 0])), (a13, .inl (g21, 2003, .inl (upd (upd (upd (fun _ => 0) 0 0) 1 0) 2 0))), (a14, .inl (g22, 2003, .inl (upd (upd (upd (fun _ => 0) 0 0) 1 0) 2 0)))] [(g21, .int), (g22, .int), (g11, .int), (g12, .boolean)])) (va_Qv (fun _ : (Nat → Int32) × (Nat → Int32) => True) (fun z t => qX (dC, dI) [(a2, .inl (g11, 224, .inl z.1)), (a3, .inl (g12, 224, .inl z.2)), (a14, .inl (g22, 2003, .inl (upd (upd (upd (fun _ => 0) 0 0) 1 0) 2 0))), (a1, .inr (9, [.ref a13, .ref a14, .ref a15, .ref a16, .ref a17, .ref a18, .ref a19, .int 0, .ref a20, .int 0, .int 3, .int 0])), (a13, .inl (g21, 2003, .inl (upd (upd (upd (fun _ => 0) 0 0) 1 0) 2 0))), (a0, .inr (0, [.ref a1, .ref a2, .ref a3, .ref a4, .ref a5, .ref a6, .ref a7, .ref a8, .ref a9, .ref a10, .int 1, .int 0, .int 0, .int 0, .int 0, .int 0, .int 0, .int 0]))] [(g21, .int), (g22, .int), (g11, .int), (g12, .boolean)] (va_A [(a0, .inr (0, [.ref a1, .ref a2, .ref a3, .ref a4, .ref a5, .ref a6, .ref a7, .ref a8, .ref a9, .ref a10, .int 0, .int 0, .int 0, .int 0, .int 0, .int 0, .int 0, .int 0])), (a2, .inl (g11, 224, .inl (fun _ => 0))), (a3, .inl (g12, 224, .inl (fun _ => 0))), (a1, .inr (9, [.ref a13, .ref a14, .ref a15, .ref a16, .ref a17, .ref a18, .ref a19, .int 0, .ref a20, .int 0, .int 3, .int 0])), (a13, .inl (g21, 2003, .inl (upd (upd (upd (fun _ => 0) 0 0) 1 0) 2 0))), (a14, .inl (g22, 2003, .inl (upd (upd (upd (fun _ => 0) 0 0) 1 0) 2 0)))] sz) t) (va_A [(a0, .inr (0, [.ref a1, .ref a2, .ref a3, .ref a4, .ref a5, .ref a6, .ref a7, .ref a8, .ref a9, .ref a10, .int 0, .int 0, .int 0, .int 0, .int 0, .int 0, .int 0, .int 0])), (a2, .inl (g11, 224, .inl (fun _ => 0))), (a3, .inl (g12, 224, .inl (fun _ => 0))), (a1, .inr (9, [.ref a13, .ref a14, .ref a15, .ref a16, .ref a17, .ref a18, .ref a19, .int 0, .ref a20, .int 0, .int 3, .int 0])), (a13, .inl (g21, 2003, .inl (upd (upd (upd (fun _ => 0) 0 0) 1 0) 2 0))), (a14, .inl (g22, 2003, .inl (upd (upd (upd (fun _ => 0) 0 0) 1 0) 2 0)))] sz)) 0 0 (va_A [(a0, .inr (0, [.ref a1, .ref a2, .ref a3, .ref a4, .ref a5, .ref a6, .ref a7, .ref a8, .ref a9, .ref a10, .int 0, .int 0, .int 0, .int 0, .int 0, .int 0, .int 0, .int 0])), (a2, .inl (g11, 224, .inl (fun _ => 0))), (a3, .inl (g12, 224, .inl (fun _ => 0))), (a1, .inr (9, [.ref a13, .ref a14, .ref a15, .ref a16, .ref a17, .ref a18, .ref a19, .int 0, .ref a20, .int 0, .int 3, .int 0])), (a13, .inl (g21, 2003, .inl (upd (upd (upd (fun _ => 0) 0 0) 1 0) 2 0))), (a14, .inl (g22, 2003, .inl (upd (upd (upd (fun _ => 0) 0 0) 1 0) 2 0)))] sz) := by
  refine Met.ofW (cc := cX0_readProgram) (maxL := 4) (ret := none) (by decide) rfl ?_
  intro p e s m args below meth c s₁ B hml hv
  obtain ⟨rfl, hsz, hP, hK, hD0, hN⟩ := hv
  have hx := B.exec
  have hb := B.bytes
  have hr := B.returns
  have hts : ∀ w ∈ wB, w.before _ s = true := fun w h => atoms_spec (ws := Cond.code yX0_readProgram cX0_readProgram 4 none :: wB) B.pre w (List.mem_cons_of_mem _ h)
  have hown : s.vm.findClass RX0 = some m.cls := findClass_of_methodNamed B.named
  have hlocks := B.notSynchronized
  subst hsz
  have hD := hD0.self (sz := s.heap.size)
  generalize hAe : va_A [(a0, .inr (0, [.ref a1, .ref a2, .ref a3, .ref a4, .ref a5, .ref a6, .ref a7, .ref a8, .ref a9, .ref a10, .int 0, .int 0, .int 0, .int 0, .int 0, .int 0, .int 0, .int 0])), (a2, .inl (g11, 224, .inl (fun _ => 0))), (a3, .inl (g12, 224, .inl (fun _ => 0))), (a1, .inr (9, [.ref a13, .ref a14, .ref a15, .ref a16, .ref a17, .ref a18, .ref a19, .int 0, .ref a20, .int 0, .int 3, .int 0])), (a13, .inl (g21, 2003, .inl (upd (upd (upd (fun _ => 0) 0 0) 1 0) 2 0))), (a14, .inl (g22, 2003, .inl (upd (upd (upd (fun _ => 0) 0 0) 1 0) 2 0)))] s.heap.size = A at hD ⊢
  have hA : ∀ q : Nat, s.heap.size ≤ q → A q := fun q h => by rw [← hAe]; exact Or.inr h
  have hS : va_S A s.heap s.heap [] := va_S.rf
  have hP : va_P (dC, dI) vwCl [(a0, .inr (0, [.ref a1, .ref a2, .ref a3, .ref a4, .ref a5, .ref a6, .ref a7, .ref a8, .ref a9, .ref a10, .int 0, .int 0, .int 0, .int 0, .int 0, .int 0, .int 0, .int 0])), (a2, .inl (g11, 224, .inl (fun _ => 0))), (a3, .inl (g12, 224, .inl (fun _ => 0))), (a1, .inr (9, [.ref a13, .ref a14, .ref a15, .ref a16, .ref a17, .ref a18, .ref a19, .int 0, .ref a20, .int 0, .int 3, .int 0])), (a13, .inl (g21, 2003, .inl (upd (upd (upd (fun _ => 0) 0 0) 1 0) 2 0))), (a14, .inl (g22, 2003, .inl (upd (upd (upd (fun _ => 0) 0 0) 1 0) 2 0)))] s.heap := hP
  have hl := lv_entry ([.ref a0]) (n := 4) (Nat.le_of_ble_eq_true rfl)
  rw [lg_entry_eq]
  generalize (lg_sl ([.ref a0]) ++ List.replicate (4 - (lg_sl ([.ref a0])).length) Slot.unset).toArray = ls at hl ⊢
  have hl : lv_has ls 4 [(0, .ref a0)] := hl
  refine lv_aload_n hx hb dX0_readProgram_0 rfl (lv_at hl 0 rfl) ?_
  refine lv_iconst (v := 0) hx hb dX0_readProgram_1 (by decide) ?_
  refine va_put (D := (dC, dI)) (ci := 0) (v := .int 0) (ty := .int) (C := RX0) (T := TX0) (N := 18) hx hb hts iX0 tyX0 tyX0_ok nmX0 hown hK hP hD hS 0 rfl rfl 10 (by decide) (hts _ k221) (fun _ h9 => h9) rfl (by decide +kernel) rfl rfl (Nat.le_of_ble_eq_true rfl) dX0_readProgram_2 (fun H locs hP hD hS => ?_)
  have hP : va_P (dC, dI) vwCl [(a0, .inr (0, [.ref a1, .ref a2, .ref a3, .ref a4, .ref a5, .ref a6, .ref a7, .ref a8, .ref a9, .ref a10, .int 0, .int 0, .int 0, .int 0, .int 0, .int 0, .int 0, .int 0])), (a2, .inl (g11, 224, .inl (fun _ => 0))), (a3, .inl (g12, 224, .inl (fun _ => 0))), (a1, .inr (9, [.ref a13, .ref a14, .ref a15, .ref a16, .ref a17, .ref a18, .ref a19, .int 0, .ref a20, .int 0, .int 3, .int 0])), (a13, .inl (g21, 2003, .inl (upd (upd (upd (fun _ => 0) 0 0) 1 0) 2 0))), (a14, .inl (g22, 2003, .inl (upd (upd (upd (fun _ => 0) 0 0) 1 0) 2 0)))] H := hP
  have hD : va_D A [(a0, .inr (0, [.ref a1, .ref a2, .ref a3, .ref a4, .ref a5, .ref a6, .ref a7, .ref a8, .ref a9, .ref a10, .int 0, .int 0, .int 0, .int 0, .int 0, .int 0, .int 0, .int 0])), (a2, .inl (g11, 224, .inl (fun _ => 0))), (a3, .inl (g12, 224, .inl (fun _ => 0))), (a1, .inr (9, [.ref a13, .ref a14, .ref a15, .ref a16, .ref a17, .ref a18, .ref a19, .int 0, .ref a20, .int 0, .int 3, .int 0])), (a13, .inl (g21, 2003, .inl (upd (upd (upd (fun _ => 0) 0 0) 1 0) 2 0))), (a14, .inl (g22, 2003, .inl (upd (upd (upd (fun _ => 0) 0 0) 1 0) 2 0)))] := hD
  refine lv_aload_n hx hb dX0_readProgram_5 rfl (lv_at hl 0 rfl) ?_
  refine lv_iconst (v := 0) hx hb dX0_readProgram_6 (by decide) ?_
  refine va_put (D := (dC, dI)) (ci := 0) (v := .int 0) (ty := .int) (C := RX0) (T := TX0) (N := 18) hx hb hts iX0 tyX0 tyX0_ok nmX0 hown hK hP hD hS 0 rfl rfl 11 (by decide) (hts _ k222) (fun _ h9 => h9) rfl (by decide +kernel) rfl rfl (Nat.le_of_ble_eq_true rfl) dX0_readProgram_7 (fun H locs hP hD hS => ?_)
  have hP : va_P (dC, dI) vwCl [(a0, .inr (0, [.ref a1, .ref a2, .ref a3, .ref a4, .ref a5, .ref a6, .ref a7, .ref a8, .ref a9, .ref a10, .int 0, .int 0, .int 0, .int 0, .int 0, .int 0, .int 0, .int 0])), (a2, .inl (g11, 224, .inl (fun _ => 0))), (a3, .inl (g12, 224, .inl (fun _ => 0))), (a1, .inr (9, [.ref a13, .ref a14, .ref a15, .ref a16, .ref a17, .ref a18, .ref a19, .int 0, .ref a20, .int 0, .int 3, .int 0])), (a13, .inl (g21, 2003, .inl (upd (upd (upd (fun _ => 0) 0 0) 1 0) 2 0))), (a14, .inl (g22, 2003, .inl (upd (upd (upd (fun _ => 0) 0 0) 1 0) 2 0)))] H := hP
  have hD : va_D A [(a0, .inr (0, [.ref a1, .ref a2, .ref a3, .ref a4, .ref a5, .ref a6, .ref a7, .ref a8, .ref a9, .ref a10, .int 0, .int 0, .int 0, .int 0, .int 0, .int 0, .int 0, .int 0])), (a2, .inl (g11, 224, .inl (fun _ => 0))), (a3, .inl (g12, 224, .inl (fun _ => 0))), (a1, .inr (9, [.ref a13, .ref a14, .ref a15, .ref a16, .ref a17, .ref a18, .ref a19, .int 0, .ref a20, .int 0, .int 3, .int 0])), (a13, .inl (g21, 2003, .inl (upd (upd (upd (fun _ => 0) 0 0) 1 0) 2 0))), (a14, .inl (g22, 2003, .inl (upd (upd (upd (fun _ => 0) 0 0) 1 0) 2 0)))] := hD
  refine lv_aload_n hx hb dX0_readProgram_10 rfl (lv_at hl 0 rfl) ?_
  refine lv_iconst (v := 0) hx hb dX0_readProgram_11 (by decide) ?_
  refine va_put (D := (dC, dI)) (ci := 0) (v := .int 0) (ty := .int) (C := RX0) (T := TX0) (N := 18) hx hb hts iX0 tyX0 tyX0_ok nmX0 hown hK hP hD hS 0 rfl rfl 12 (by decide) (hts _ k223) (fun _ h9 => h9) rfl (by decide +kernel) rfl rfl (Nat.le_of_ble_eq_true rfl) dX0_readProgram_12 (fun H locs hP hD hS => ?_)
  have hP : va_P (dC, dI) vwCl [(a0, .inr (0, [.ref a1, .ref a2, .ref a3, .ref a4, .ref a5, .ref a6, .ref a7, .ref a8, .ref a9, .ref a10, .int 0, .int 0, .int 0, .int 0, .int 0, .int 0, .int 0, .int 0])), (a2, .inl (g11, 224, .inl (fun _ => 0))), (a3, .inl (g12, 224, .inl (fun _ => 0))), (a1, .inr (9, [.ref a13, .ref a14, .ref a15, .ref a16, .ref a17, .ref a18, .ref a19, .int 0, .ref a20, .int 0, .int 3, .int 0])), (a13, .inl (g21, 2003, .inl (upd (upd (upd (fun _ => 0) 0 0) 1 0) 2 0))), (a14, .inl (g22, 2003, .inl (upd (upd (upd (fun _ => 0) 0 0) 1 0) 2 0)))] H := hP
  have hD : va_D A [(a0, .inr (0, [.ref a1, .ref a2, .ref a3, .ref a4, .ref a5, .ref a6, .ref a7, .ref a8, .ref a9, .ref a10, .int 0, .int 0, .int 0, .int 0, .int 0, .int 0, .int 0, .int 0])), (a2, .inl (g11, 224, .inl (fun _ => 0))), (a3, .inl (g12, 224, .inl (fun _ => 0))), (a1, .inr (9, [.ref a13, .ref a14, .ref a15, .ref a16, .ref a17, .ref a18, .ref a19, .int 0, .ref a20, .int 0, .int 3, .int 0])), (a13, .inl (g21, 2003, .inl (upd (upd (upd (fun _ => 0) 0 0) 1 0) 2 0))), (a14, .inl (g22, 2003, .inl (upd (upd (upd (fun _ => 0) 0 0) 1 0) 2 0)))] := hD
  refine lv_aload_n hx hb dX0_readProgram_15 rfl (lv_at hl 0 rfl) ?_
  refine lv_iconst (v := 0) hx hb dX0_readProgram_16 (by decide) ?_
  refine va_put (D := (dC, dI)) (ci := 0) (v := .int 0) (ty := .int) (C := RX0) (T := TX0) (N := 18) hx hb hts iX0 tyX0 tyX0_ok nmX0 hown hK hP hD hS 0 rfl rfl 13 (by decide) (hts _ k224) (fun _ h9 => h9) rfl (by decide +kernel) rfl rfl (Nat.le_of_ble_eq_true rfl) dX0_readProgram_17 (fun H locs hP hD hS => ?_)
  have hP : va_P (dC, dI) vwCl [(a0, .inr (0, [.ref a1, .ref a2, .ref a3, .ref a4, .ref a5, .ref a6, .ref a7, .ref a8, .ref a9, .ref a10, .int 0, .int 0, .int 0, .int 0, .int 0, .int 0, .int 0, .int 0])), (a2, .inl (g11, 224, .inl (fun _ => 0))), (a3, .inl (g12, 224, .inl (fun _ => 0))), (a1, .inr (9, [.ref a13, .ref a14, .ref a15, .ref a16, .ref a17, .ref a18, .ref a19, .int 0, .ref a20, .int 0, .int 3, .int 0])), (a13, .inl (g21, 2003, .inl (upd (upd (upd (fun _ => 0) 0 0) 1 0) 2 0))), (a14, .inl (g22, 2003, .inl (upd (upd (upd (fun _ => 0) 0 0) 1 0) 2 0)))] H := hP
  have hD : va_D A [(a0, .inr (0, [.ref a1, .ref a2, .ref a3, .ref a4, .ref a5, .ref a6, .ref a7, .ref a8, .ref a9, .ref a10, .int 0, .int 0, .int 0, .int 0, .int 0, .int 0, .int 0, .int 0])), (a2, .inl (g11, 224, .inl (fun _ => 0))), (a3, .inl (g12, 224, .inl (fun _ => 0))), (a1, .inr (9, [.ref a13, .ref a14, .ref a15, .ref a16, .ref a17, .ref a18, .ref a19, .int 0, .ref a20, .int 0, .int 3, .int 0])), (a13, .inl (g21, 2003, .inl (upd (upd (upd (fun _ => 0) 0 0) 1 0) 2 0))), (a14, .inl (g22, 2003, .inl (upd (upd (upd (fun _ => 0) 0 0) 1 0) 2 0)))] := hD
  refine lv_aload_n hx hb dX0_readProgram_20 rfl (lv_at hl 0 rfl) ?_
  refine lv_iconst (v := (-1)) hx hb dX0_readProgram_21 (by decide) ?_
  refine va_put (D := (dC, dI)) (ci := 0) (v := .int (-1)) (ty := .int) (C := RX0) (T := TX0) (N := 18) hx hb hts iX0 tyX0 tyX0_ok nmX0 hown hK hP hD hS 0 rfl rfl 14 (by decide) (hts _ k225) (fun _ h9 => h9) rfl (by decide +kernel) rfl rfl (Nat.le_of_ble_eq_true rfl) dX0_readProgram_22 (fun H locs hP hD hS => ?_)
  have hP : va_P (dC, dI) vwCl [(a0, .inr (0, [.ref a1, .ref a2, .ref a3, .ref a4, .ref a5, .ref a6, .ref a7, .ref a8, .ref a9, .ref a10, .int 0, .int 0, .int 0, .int 0, .int (-1), .int 0, .int 0, .int 0])), (a2, .inl (g11, 224, .inl (fun _ => 0))), (a3, .inl (g12, 224, .inl (fun _ => 0))), (a1, .inr (9, [.ref a13, .ref a14, .ref a15, .ref a16, .ref a17, .ref a18, .ref a19, .int 0, .ref a20, .int 0, .int 3, .int 0])), (a13, .inl (g21, 2003, .inl (upd (upd (upd (fun _ => 0) 0 0) 1 0) 2 0))), (a14, .inl (g22, 2003, .inl (upd (upd (upd (fun _ => 0) 0 0) 1 0) 2 0)))] H := hP
  have hD : va_D A [(a0, .inr (0, [.ref a1, .ref a2, .ref a3, .ref a4, .ref a5, .ref a6, .ref a7, .ref a8, .ref a9, .ref a10, .int 0, .int 0, .int 0, .int 0, .int (-1), .int 0, .int 0, .int 0])), (a2, .inl (g11, 224, .inl (fun _ => 0))), (a3, .inl (g12, 224, .inl (fun _ => 0))), (a1, .inr (9, [.ref a13, .ref a14, .ref a15, .ref a16, .ref a17, .ref a18, .ref a19, .int 0, .ref a20, .int 0, .int 3, .int 0])), (a13, .inl (g21, 2003, .inl (upd (upd (upd (fun _ => 0) 0 0) 1 0) 2 0))), (a14, .inl (g22, 2003, .inl (upd (upd (upd (fun _ => 0) 0 0) 1 0) 2 0)))] := hD
  refine lv_aload_n hx hb dX0_readProgram_25 rfl (lv_at hl 0 rfl) ?_
  refine lv_iconst (v := 0) hx hb dX0_readProgram_26 (by decide) ?_
  refine va_put (D := (dC, dI)) (ci := 0) (v := .int 0) (ty := .int) (C := RX0) (T := TX0) (N := 18) hx hb hts iX0 tyX0 tyX0_ok nmX0 hown hK hP hD hS 0 rfl rfl 16 (by decide) (hts _ k226) (fun _ h9 => h9) rfl (by decide +kernel) rfl rfl (Nat.le_of_ble_eq_true rfl) dX0_readProgram_27 (fun H locs hP hD hS => ?_)
  have hP : va_P (dC, dI) vwCl [(a0, .inr (0, [.ref a1, .ref a2, .ref a3, .ref a4, .ref a5, .ref a6, .ref a7, .ref a8, .ref a9, .ref a10, .int 0, .int 0, .int 0, .int 0, .int (-1), .int 0, .int 0, .int 0])), (a2, .inl (g11, 224, .inl (fun _ => 0))), (a3, .inl (g12, 224, .inl (fun _ => 0))), (a1, .inr (9, [.ref a13, .ref a14, .ref a15, .ref a16, .ref a17, .ref a18, .ref a19, .int 0, .ref a20, .int 0, .int 3, .int 0])), (a13, .inl (g21, 2003, .inl (upd (upd (upd (fun _ => 0) 0 0) 1 0) 2 0))), (a14, .inl (g22, 2003, .inl (upd (upd (upd (fun _ => 0) 0 0) 1 0) 2 0)))] H := hP
  have hD : va_D A [(a0, .inr (0, [.ref a1, .ref a2, .ref a3, .ref a4, .ref a5, .ref a6, .ref a7, .ref a8, .ref a9, .ref a10, .int 0, .int 0, .int 0, .int 0, .int (-1), .int 0, .int 0, .int 0])), (a2, .inl (g11, 224, .inl (fun _ => 0))), (a3, .inl (g12, 224, .inl (fun _ => 0))), (a1, .inr (9, [.ref a13, .ref a14, .ref a15, .ref a16, .ref a17, .ref a18, .ref a19, .int 0, .ref a20, .int 0, .int 3, .int 0])), (a13, .inl (g21, 2003, .inl (upd (upd (upd (fun _ => 0) 0 0) 1 0) 2 0))), (a14, .inl (g22, 2003, .inl (upd (upd (upd (fun _ => 0) 0 0) 1 0) 2 0)))] := hD
  refine lv_aload_n hx hb dX0_readProgram_30 rfl (lv_at hl 0 rfl) ?_
  refine lv_iconst (v := 0) hx hb dX0_readProgram_31 (by decide) ?_
  refine va_put (D := (dC, dI)) (ci := 0) (v := .int 0) (ty := .int) (C := RX0) (T := TX0) (N := 18) hx hb hts iX0 tyX0 tyX0_ok nmX0 hown hK hP hD hS 0 rfl rfl 17 (by decide) (hts _ k227) (fun _ h9 => h9) rfl (by decide +kernel) rfl rfl (Nat.le_of_ble_eq_true rfl) dX0_readProgram_32 (fun H locs hP hD hS => ?_)
  have hP : va_P (dC, dI) vwCl [(a0, .inr (0, [.ref a1, .ref a2, .ref a3, .ref a4, .ref a5, .ref a6, .ref a7, .ref a8, .ref a9, .ref a10, .int 0, .int 0, .int 0, .int 0, .int (-1), .int 0, .int 0, .int 0])), (a2, .inl (g11, 224, .inl (fun _ => 0))), (a3, .inl (g12, 224, .inl (fun _ => 0))), (a1, .inr (9, [.ref a13, .ref a14, .ref a15, .ref a16, .ref a17, .ref a18, .ref a19, .int 0, .ref a20, .int 0, .int 3, .int 0])), (a13, .inl (g21, 2003, .inl (upd (upd (upd (fun _ => 0) 0 0) 1 0) 2 0))), (a14, .inl (g22, 2003, .inl (upd (upd (upd (fun _ => 0) 0 0) 1 0) 2 0)))] H := hP
  have hD : va_D A [(a0, .inr (0, [.ref a1, .ref a2, .ref a3, .ref a4, .ref a5, .ref a6, .ref a7, .ref a8, .ref a9, .ref a10, .int 0, .int 0, .int 0, .int 0, .int (-1), .int 0, .int 0, .int 0])), (a2, .inl (g11, 224, .inl (fun _ => 0))), (a3, .inl (g12, 224, .inl (fun _ => 0))), (a1, .inr (9, [.ref a13, .ref a14, .ref a15, .ref a16, .ref a17, .ref a18, .ref a19, .int 0, .ref a20, .int 0, .int 3, .int 0])), (a13, .inl (g21, 2003, .inl (upd (upd (upd (fun _ => 0) 0 0) 1 0) 2 0))), (a14, .inl (g22, 2003, .inl (upd (upd (upd (fun _ => 0) 0 0) 1 0) 2 0)))] := hD
  refine lv_iconst (v := 1) hx hb dX0_readProgram_35 (by decide) ?_
  refine lv_istore_n (lv' := [(1, .int 1), (0, .ref a0)]) hx hb dX0_readProgram_36 rfl hl (by decide) rfl (fun ls hl => ?_)
  refine lv_iconst (v := 0) hx hb dX0_readProgram_37 (by decide) ?_
  refine lv_istore_n (lv' := [(2, .int 0), (1, .int 1), (0, .ref a0)]) hx hb dX0_readProgram_38 rfl hl (by decide) rfl (fun ls hl => ?_)
  refine lv_iload_n hx hb dX0_readProgram_39 rfl (lv_at hl 0 rfl) ?_
  refine lv_sipush (v := 224) hx hb dX0_readProgram_40 (by decide) ?_
  refine lv_icmp_ge (tgt := 121) hx hb dX0_readProgram_43 (by decide) (fun c9 => absurd c9 (by decide)) (fun _ => ?_)
  refine lv_iload_n hx hb dX0_readProgram_46 rfl (lv_at hl 1 rfl) ?_
  refine lv_if_eq (tgt := 121) hx hb dX0_readProgram_47 (by decide) (fun c9 => absurd c9 (by decide)) (fun _ => ?_)
  refine lv_aload_n hx hb dX0_readProgram_50 rfl (lv_at hl 2 rfl) ?_
  refine xV_v (n := 0) (As := []) (rest := []) (wc := [(a0, .inr (0, [.ref a1, .ref a2, .ref a3, .ref a4, .ref a5, .ref a6, .ref a7, .ref a8, .ref a9, .ref a10, .int 0, .int 0, .int 0, .int 0, .int (-1), .int 0, .int 0, .int 0])), (a2, .inl (g11, 224, .inl (fun _ => 0))), (a3, .inl (g12, 224, .inl (fun _ => 0))), (a1, .inr (9, [.ref a13, .ref a14, .ref a15, .ref a16, .ref a17, .ref a18, .ref a19, .int 0, .ref a20, .int 0, .int 3, .int 0])), (a13, .inl (g21, 2003, .inl (upd (upd (upd (fun _ => 0) 0 0) 1 0) 2 0))), (a14, .inl (g22, 2003, .inl (upd (upd (upd (fun _ => 0) 0 0) 1 0) 2 0)))]) (wr := []) (tc := [(g21, .int), (g22, .int), (g11, .int), (g12, .boolean)]) ⟨hx, hb, hml, hown, hts⟩ (c_X0_readClassHead_1 l dC dI a0 a1 a2 a3 a4 a5 a6 a7 a8 a9 a10 g11 g12 a13 a14 a15 a16 a17 a18 a19 a20 g21 g22 H.size) ⟨k239, k240, k241, k31, k242⟩ (by decide +kernel) rfl ⟨Nat.le_of_ble_eq_true rfl, Nat.le_of_ble_eq_true rfl⟩ ⟨Nat.le_of_ble_eq_true rfl, Nat.le_of_ble_eq_true rfl⟩ hK hP hD hS hA hN [0, 1, 2, 3, 4, 5] [] [0, 1, 2, 3] rfl rfl (by decide) (by decide) rfl 0 rfl rfl hl.1 rfl (Nat.le_of_ble_eq_true rfl) dX0_readProgram_51 (fun z H locs hw hK hP hD hS => ?_)
  obtain ⟨f1, f2⟩ := z
  have hK : va_K (dC, dI) vwCl [(g21, .int), (g22, .int), (g11, .int), (g12, .boolean), (g21, .int), (g22, .int), (g11, .int), (g12, .boolean)] s := hK
  have hP : va_P (dC, dI) vwCl [(a2, .inl (g11, 224, .inl f1)), (a3, .inl (g12, 224, .inl f2)), (a14, .inl (g22, 2003, .inl (upd (upd (upd (fun _ => 0) 0 0) 1 0) 2 0))), (a1, .inr (9, [.ref a13, .ref a14, .ref a15, .ref a16, .ref a17, .ref a18, .ref a19, .int 0, .ref a20, .int 0, .int 3, .int 0])), (a13, .inl (g21, 2003, .inl (upd (upd (upd (fun _ => 0) 0 0) 1 0) 2 0))), (a0, .inr (0, [.ref a1, .ref a2, .ref a3, .ref a4, .ref a5, .ref a6, .ref a7, .ref a8, .ref a9, .ref a10, .int 1, .int 0, .int 0, .int 0, .int 0, .int 0, .int 0, .int 0]))] H := hP
  have hD : va_D A [(a2, .inl (g11, 224, .inl f1)), (a3, .inl (g12, 224, .inl f2)), (a14, .inl (g22, 2003, .inl (upd (upd (upd (fun _ => 0) 0 0) 1 0) 2 0))), (a1, .inr (9, [.ref a13, .ref a14, .ref a15, .ref a16, .ref a17, .ref a18, .ref a19, .int 0, .ref a20, .int 0, .int 3, .int 0])), (a13, .inl (g21, 2003, .inl (upd (upd (upd (fun _ => 0) 0 0) 1 0) 2 0))), (a0, .inr (0, [.ref a1, .ref a2, .ref a3, .ref a4, .ref a5, .ref a6, .ref a7, .ref a8, .ref a9, .ref a10, .int 1, .int 0, .int 0, .int 0, .int 0, .int 0, .int 0, .int 0]))] := hD
  refine W.widen (k := 0) (n := 0) (Nat.le_of_ble_eq_true rfl) (Nat.le_of_ble_eq_true rfl) ?_
  have hK := hK.sub (tys' := [(g21, .int), (g22, .int), (g11, .int), (g12, .boolean)]) [0, 1, 2, 3] rfl
  refine lv_iconst (v := 0) hx hb dX0_readProgram_54 (by decide) ?_
  refine lv_istore_n (lv' := [(3, .int 0), (2, .int 0), (1, .int 1), (0, .ref a0)]) hx hb dX0_readProgram_55 rfl hl (by decide) rfl (fun ls hl => ?_)
  refine lv_iload_n hx hb dX0_readProgram_56 rfl (lv_at hl 0 rfl) ?_
  refine lv_sipush (v := 502) hx hb dX0_readProgram_57 (by decide) ?_
  refine lv_icmp_ge (tgt := 89) hx hb dX0_readProgram_60 (by decide) (fun c9 => absurd c9 (by decide)) (fun _ => ?_)
  refine lv_aload_n hx hb dX0_readProgram_63 rfl (lv_at hl 3 rfl) ?_
  refine xV_i (n := 0) (As := []) (rest := []) (wc := [(a0, .inr (0, [.ref a1, .ref a2, .ref a3, .ref a4, .ref a5, .ref a6, .ref a7, .ref a8, .ref a9, .ref a10, .int 1, .int 0, .int 0, .int 0, .int 0, .int 0, .int 0, .int 0]))]) (wr := [(a2, .inl (g11, 224, .inl f1)), (a3, .inl (g12, 224, .inl f2)), (a14, .inl (g22, 2003, .inl (upd (upd (upd (fun _ => 0) 0 0) 1 0) 2 0))), (a1, .inr (9, [.ref a13, .ref a14, .ref a15, .ref a16, .ref a17, .ref a18, .ref a19, .int 0, .ref a20, .int 0, .int 3, .int 0])), (a13, .inl (g21, 2003, .inl (upd (upd (upd (fun _ => 0) 0 0) 1 0) 2 0)))]) (tc := []) ⟨hx, hb, hml, hown, hts⟩ (c_X0_isGood_1 l dC dI a0 a1 a2 a3 a4 a5 a6 a7 a8 a9 a10 H.size) ⟨k243, k244, k245, k31, k246⟩ (by decide +kernel) rfl ⟨Nat.le_of_ble_eq_true rfl, Nat.le_of_ble_eq_true rfl⟩ ⟨Nat.le_of_ble_eq_true rfl, Nat.le_of_ble_eq_true rfl⟩ hK hP hD hS hA hN [5] [0, 1, 2, 3, 4] [] rfl rfl (by decide) (by decide) rfl 0 rfl rfl hl.1 rfl (Nat.le_of_ble_eq_true rfl) dX0_readProgram_64 (fun r9 z H locs hw hK hP hD hS => ?_)
  have hK : va_K (dC, dI) vwCl [(g21, .int), (g22, .int), (g11, .int), (g12, .boolean)] s := hK
  have hP : va_P (dC, dI) vwCl [(a2, .inl (g11, 224, .inl f1)), (a3, .inl (g12, 224, .inl f2)), (a14, .inl (g22, 2003, .inl (upd (upd (upd (fun _ => 0) 0 0) 1 0) 2 0))), (a1, .inr (9, [.ref a13, .ref a14, .ref a15, .ref a16, .ref a17, .ref a18, .ref a19, .int 0, .ref a20, .int 0, .int 3, .int 0])), (a13, .inl (g21, 2003, .inl (upd (upd (upd (fun _ => 0) 0 0) 1 0) 2 0))), (a0, .inr (0, [.ref a1, .ref a2, .ref a3, .ref a4, .ref a5, .ref a6, .ref a7, .ref a8, .ref a9, .ref a10, .int 1, .int 0, .int 0, .int 0, .int 0, .int 0, .int 0, .int 0]))] H := hP
  have hD : va_D A [(a2, .inl (g11, 224, .inl f1)), (a3, .inl (g12, 224, .inl f2)), (a14, .inl (g22, 2003, .inl (upd (upd (upd (fun _ => 0) 0 0) 1 0) 2 0))), (a1, .inr (9, [.ref a13, .ref a14, .ref a15, .ref a16, .ref a17, .ref a18, .ref a19, .int 0, .ref a20, .int 0, .int 3, .int 0])), (a13, .inl (g21, 2003, .inl (upd (upd (upd (fun _ => 0) 0 0) 1 0) 2 0))), (a0, .inr (0, [.ref a1, .ref a2, .ref a3, .ref a4, .ref a5, .ref a6, .ref a7, .ref a8, .ref a9, .ref a10, .int 1, .int 0, .int 0, .int 0, .int 0, .int 0, .int 0, .int 0]))] := hD
  refine W.widen (k := 0) (n := 0) (Nat.le_of_ble_eq_true rfl) (Nat.le_of_ble_eq_true rfl) ?_
  refine lv_is 0 hw ?_
  refine lv_if_eq (tgt := 89) hx hb dX0_readProgram_67 (by decide) (fun _ => ?_) (fun c9 => absurd c9 (by decide))
  refine lv_aload_n hx hb dX0_readProgram_89 rfl (lv_at hl 3 rfl) ?_
  refine lv_bipush (v := 43) hx hb dX0_readProgram_90 (by decide) ?_
  refine xV_v (n := 1) (As := [.int 43]) (rest := []) (wc := [(a0, .inr (0, [.ref a1, .ref a2, .ref a3, .ref a4, .ref a5, .ref a6, .ref a7, .ref a8, .ref a9, .ref a10, .int 1, .int 0, .int 0, .int 0, .int 0, .int 0, .int 0, .int 0]))]) (wr := [(a2, .inl (g11, 224, .inl f1)), (a3, .inl (g12, 224, .inl f2)), (a14, .inl (g22, 2003, .inl (upd (upd (upd (fun _ => 0) 0 0) 1 0) 2 0))), (a1, .inr (9, [.ref a13, .ref a14, .ref a15, .ref a16, .ref a17, .ref a18, .ref a19, .int 0, .ref a20, .int 0, .int 3, .int 0])), (a13, .inl (g21, 2003, .inl (upd (upd (upd (fun _ => 0) 0 0) 1 0) 2 0)))]) (tc := []) ⟨hx, hb, hml, hown, hts⟩ (c_X0_need_4 l dC dI a0 a1 a2 a3 a4 a5 a6 a7 a8 a9 a10 H.size) ⟨k234, k235, k236, k31, k237⟩ (by decide +kernel) rfl ⟨Nat.le_of_ble_eq_true rfl, Nat.le_of_ble_eq_true rfl⟩ ⟨Nat.le_of_ble_eq_true rfl, Nat.le_of_ble_eq_true rfl⟩ hK hP hD hS hA hN [5] [0, 1, 2, 3, 4] [] rfl rfl (by decide) (by decide) rfl 0 rfl rfl hl.1 rfl (Nat.le_of_ble_eq_true rfl) dX0_readProgram_92 (fun z H locs hw hK hP hD hS => ?_)
  have hK : va_K (dC, dI) vwCl [(g21, .int), (g22, .int), (g11, .int), (g12, .boolean)] s := hK
  have hP : va_P (dC, dI) vwCl [(a2, .inl (g11, 224, .inl f1)), (a3, .inl (g12, 224, .inl f2)), (a14, .inl (g22, 2003, .inl (upd (upd (upd (fun _ => 0) 0 0) 1 0) 2 0))), (a1, .inr (9, [.ref a13, .ref a14, .ref a15, .ref a16, .ref a17, .ref a18, .ref a19, .int 0, .ref a20, .int 0, .int 3, .int 0])), (a13, .inl (g21, 2003, .inl (upd (upd (upd (fun _ => 0) 0 0) 1 0) 2 0))), (a0, .inr (0, [.ref a1, .ref a2, .ref a3, .ref a4, .ref a5, .ref a6, .ref a7, .ref a8, .ref a9, .ref a10, .int 1, .int 0, .int 0, .int 0, .int 0, .int 0, .int 0, .int 0]))] H := hP
  have hD : va_D A [(a2, .inl (g11, 224, .inl f1)), (a3, .inl (g12, 224, .inl f2)), (a14, .inl (g22, 2003, .inl (upd (upd (upd (fun _ => 0) 0 0) 1 0) 2 0))), (a1, .inr (9, [.ref a13, .ref a14, .ref a15, .ref a16, .ref a17, .ref a18, .ref a19, .int 0, .ref a20, .int 0, .int 3, .int 0])), (a13, .inl (g21, 2003, .inl (upd (upd (upd (fun _ => 0) 0 0) 1 0) 2 0))), (a0, .inr (0, [.ref a1, .ref a2, .ref a3, .ref a4, .ref a5, .ref a6, .ref a7, .ref a8, .ref a9, .ref a10, .int 1, .int 0, .int 0, .int 0, .int 0, .int 0, .int 0, .int 0]))] := hD
  refine W.widen (k := 0) (n := 0) (Nat.le_of_ble_eq_true rfl) (Nat.le_of_ble_eq_true rfl) ?_
  refine lv_aload_n hx hb dX0_readProgram_95 rfl (lv_at hl 3 rfl) ?_
  refine xV_i (n := 0) (As := []) (rest := []) (wc := [(a0, .inr (0, [.ref a1, .ref a2, .ref a3, .ref a4, .ref a5, .ref a6, .ref a7, .ref a8, .ref a9, .ref a10, .int 1, .int 0, .int 0, .int 0, .int 0, .int 0, .int 0, .int 0]))]) (wr := [(a2, .inl (g11, 224, .inl f1)), (a3, .inl (g12, 224, .inl f2)), (a14, .inl (g22, 2003, .inl (upd (upd (upd (fun _ => 0) 0 0) 1 0) 2 0))), (a1, .inr (9, [.ref a13, .ref a14, .ref a15, .ref a16, .ref a17, .ref a18, .ref a19, .int 0, .ref a20, .int 0, .int 3, .int 0])), (a13, .inl (g21, 2003, .inl (upd (upd (upd (fun _ => 0) 0 0) 1 0) 2 0)))]) (tc := []) ⟨hx, hb, hml, hown, hts⟩ (c_X0_isGood_1 l dC dI a0 a1 a2 a3 a4 a5 a6 a7 a8 a9 a10 H.size) ⟨k243, k244, k245, k31, k246⟩ (by decide +kernel) rfl ⟨Nat.le_of_ble_eq_true rfl, Nat.le_of_ble_eq_true rfl⟩ ⟨Nat.le_of_ble_eq_true rfl, Nat.le_of_ble_eq_true rfl⟩ hK hP hD hS hA hN [5] [0, 1, 2, 3, 4] [] rfl rfl (by decide) (by decide) rfl 0 rfl rfl hl.1 rfl (Nat.le_of_ble_eq_true rfl) dX0_readProgram_96 (fun r9 z H locs hw hK hP hD hS => ?_)
  have hK : va_K (dC, dI) vwCl [(g21, .int), (g22, .int), (g11, .int), (g12, .boolean)] s := hK
  have hP : va_P (dC, dI) vwCl [(a2, .inl (g11, 224, .inl f1)), (a3, .inl (g12, 224, .inl f2)), (a14, .inl (g22, 2003, .inl (upd (upd (upd (fun _ => 0) 0 0) 1 0) 2 0))), (a1, .inr (9, [.ref a13, .ref a14, .ref a15, .ref a16, .ref a17, .ref a18, .ref a19, .int 0, .ref a20, .int 0, .int 3, .int 0])), (a13, .inl (g21, 2003, .inl (upd (upd (upd (fun _ => 0) 0 0) 1 0) 2 0))), (a0, .inr (0, [.ref a1, .ref a2, .ref a3, .ref a4, .ref a5, .ref a6, .ref a7, .ref a8, .ref a9, .ref a10, .int 1, .int 0, .int 0, .int 0, .int 0, .int 0, .int 0, .int 0]))] H := hP
  have hD : va_D A [(a2, .inl (g11, 224, .inl f1)), (a3, .inl (g12, 224, .inl f2)), (a14, .inl (g22, 2003, .inl (upd (upd (upd (fun _ => 0) 0 0) 1 0) 2 0))), (a1, .inr (9, [.ref a13, .ref a14, .ref a15, .ref a16, .ref a17, .ref a18, .ref a19, .int 0, .ref a20, .int 0, .int 3, .int 0])), (a13, .inl (g21, 2003, .inl (upd (upd (upd (fun _ => 0) 0 0) 1 0) 2 0))), (a0, .inr (0, [.ref a1, .ref a2, .ref a3, .ref a4, .ref a5, .ref a6, .ref a7, .ref a8, .ref a9, .ref a10, .int 1, .int 0, .int 0, .int 0, .int 0, .int 0, .int 0, .int 0]))] := hD
  refine W.widen (k := 0) (n := 0) (Nat.le_of_ble_eq_true rfl) (Nat.le_of_ble_eq_true rfl) ?_
  refine lv_is 0 hw ?_
  refine lv_if_eq (tgt := 113) hx hb dX0_readProgram_99 (by decide) (fun _ => ?_) (fun c9 => absurd c9 (by decide))
  refine lv_iconst (v := 0) hx hb dX0_readProgram_113 (by decide) ?_
  refine lv_istore_n (lv' := [(1, .int 0), (3, .int 0), (2, .int 0), (0, .ref a0)]) hx hb dX0_readProgram_114 rfl hl (by decide) rfl (fun ls hl => ?_)
  refine lv_iinc (v := 1) (lv' := [(2, .int 1), (1, .int 0), (3, .int 0), (0, .ref a0)]) hx hb dX0_readProgram_115 hl (k := 2) rfl (by decide) (by decide) rfl (fun ls hl => ?_)
  refine lv_goto (tgt := 39) hx hb dX0_readProgram_118 (by decide) ?_
  refine lv_iload_n hx hb dX0_readProgram_39 rfl (lv_at hl 0 rfl) ?_
  refine lv_sipush (v := 224) hx hb dX0_readProgram_40 (by decide) ?_
  refine lv_icmp_ge (tgt := 121) hx hb dX0_readProgram_43 (by decide) (fun c9 => absurd c9 (by decide)) (fun _ => ?_)
  refine lv_iload_n hx hb dX0_readProgram_46 rfl (lv_at hl 1 rfl) ?_
  refine lv_if_eq (tgt := 121) hx hb dX0_readProgram_47 (by decide) (fun _ => ?_) (fun c9 => absurd c9 (by decide))
  have hP9 := hP.sub (ws' := [(a2, .inl (g11, 224, .inl f1)), (a3, .inl (g12, 224, .inl f2)), (a14, .inl (g22, 2003, .inl (upd (upd (upd (fun _ => 0) 0 0) 1 0) 2 0))), (a1, .inr (9, [.ref a13, .ref a14, .ref a15, .ref a16, .ref a17, .ref a18, .ref a19, .int 0, .ref a20, .int 0, .int 3, .int 0])), (a13, .inl (g21, 2003, .inl (upd (upd (upd (fun _ => 0) 0 0) 1 0) 2 0))), (a0, .inr (0, [.ref a1, .ref a2, .ref a3, .ref a4, .ref a5, .ref a6, .ref a7, .ref a8, .ref a9, .ref a10, .int 1, .int 0, .int 0, .int 0, .int 0, .int 0, .int 0, .int 0]))]) [0, 1, 2, 3, 4, 5] rfl
  have hD9 := hD.sub (ws' := [(a2, .inl (g11, 224, .inl f1)), (a3, .inl (g12, 224, .inl f2)), (a14, .inl (g22, 2003, .inl (upd (upd (upd (fun _ => 0) 0 0) 1 0) 2 0))), (a1, .inr (9, [.ref a13, .ref a14, .ref a15, .ref a16, .ref a17, .ref a18, .ref a19, .int 0, .ref a20, .int 0, .int 3, .int 0])), (a13, .inl (g21, 2003, .inl (upd (upd (upd (fun _ => 0) 0 0) 1 0) 2 0))), (a0, .inr (0, [.ref a1, .ref a2, .ref a3, .ref a4, .ref a5, .ref a6, .ref a7, .ref a8, .ref a9, .ref a10, .int 1, .int 0, .int 0, .int 0, .int 0, .int 0, .int 0, .int 0]))]) [0, 1, 2, 3, 4, 5] (by decide) rfl
  have hK9 := hK.sub (tys' := [(g21, .int), (g22, .int), (g11, .int), (g12, .boolean)]) [0, 1, 2, 3] rfl
  refine W.widen (k := 0) (n := 0) (Nat.le_of_ble_eq_true rfl) (Nat.le_of_ble_eq_true rfl) ?_
  exact W.vret hx hb hr (fun t ht hW => ⟨⟨(f1, f2), rfl, trivial, by rw [ht]; exact hP9, va_K.moved hW.alike hK9, hD9⟩, hS.F ht⟩) hS.2.2 dX0_readProgram_121
set_option maxHeartbeats 4000000 in
set_option maxRecDepth 100000 in
theorem c_X3_note_1 (l : Launch) (dC : Nat → ClassId) (dI : Nat → Nat → Nat) (a0 : Nat) (a1 : Nat) (a2 : Nat) (a3 : Nat) (a4 : Nat) (a5 : Nat) (a6 : Nat) (a7 : Nat) (g8 : ClassId) (u9 : Nat → Int32) (sz : Nat) : Met l yX3_note (Cond.code yX3_note cX3_note 3 none :: wB) { frames := 1, cells := 0, slots := 0, locals := 40 } (va_Pc [.ref a0, .int 1, .int 0] (pX (dC, dI) sz [(a0, .inr (3, [.ref a1, .ref a2, .ref a3, .ref a4, .ref a5, .ref a6, .ref a7, .int 0, .int 0, .int 0, .int 0, .int 0, .int 0, .int 0, .int 0, .int 0, .int 0, .int 0, .int 0, .int 0])), (a3, .inl (g8, 6, .inl u9))] [(g8, .int)])) (va_Qv (fun _ : (Nat → Int32) => True) (fun z t => qX (dC, dI) [(a0, .inr (3, [.ref a1, .ref a2, .ref a3, .ref a4, .ref a5, .ref a6, .ref a7, .int 0, .int 0, .int 0, .int 0, .int 0, .int 0, .int 0, .int 0, .int 0, .int 0, .int 0, .int 0, .int 0])), (a3, .inl (g8, 6, .inl z))] [(g8, .int)] (va_A [(a0, .inr (3, [.ref a1, .ref a2, .ref a3, .ref a4, .ref a5, .ref a6, .ref a7, .int 0, .int 0, .int 0, .int 0, .int 0, .int 0, .int 0, .int 0, .int 0, .int 0, .int 0, .int 0, .int 0])), (a3, .inl (g8, 6, .inl u9))] sz) t) (va_A [(a0, .inr (3, [.ref a1, .ref a2, .ref a3, .ref a4, .ref a5, .ref a6, .ref a7, .int 0, .int 0, .int 0, .int 0, .int 0, .int 0, .int 0, .int 0, .int 0, .int 0, .int 0, .int 0, .int 0])), (a3, .inl (g8, 6, .inl u9))] sz)) 0 0 (va_A [(a0, .inr (3, [.ref a1, .ref a2, .ref a3, .ref a4, .ref a5, .ref a6, .ref a7, .int 0, .int 0, .int 0, .int 0, .int 0, .int 0, .int 0, .int 0, .int 0, .int 0, .int 0, .int 0, .int 0])), (a3, .inl (g8, 6, .inl u9))] sz) := by
  refine Met.ofW (cc := cX3_note) (maxL := 3) (ret := none) (by decide) rfl ?_
  intro p e s m args below meth c s₁ B hml hv
  obtain ⟨rfl, hsz, hP, hK, hD0, hN⟩ := hv
  have hx := B.exec
  have hb := B.bytes
  have hr := B.returns
  have hts : ∀ w ∈ wB, w.before _ s = true := fun w h => atoms_spec (ws := Cond.code yX3_note cX3_note 3 none :: wB) B.pre w (List.mem_cons_of_mem _ h)
  have hown : s.vm.findClass RX3 = some m.cls := findClass_of_methodNamed B.named
  have hlocks := B.notSynchronized
  subst hsz
  have hD := hD0.self (sz := s.heap.size)
  generalize hAe : va_A [(a0, .inr (3, [.ref a1, .ref a2, .ref a3, .ref a4, .ref a5, .ref a6, .ref a7, .int 0, .int 0, .int 0, .int 0, .int 0, .int 0, .int 0, .int 0, .int 0, .int 0, .int 0, .int 0, .int 0])), (a3, .inl (g8, 6, .inl u9))] s.heap.size = A at hD ⊢
  have hA : ∀ q : Nat, s.heap.size ≤ q → A q := fun q h => by rw [← hAe]; exact Or.inr h
  have hS : va_S A s.heap s.heap [] := va_S.rf
  have hP : va_P (dC, dI) vwCl [(a0, .inr (3, [.ref a1, .ref a2, .ref a3, .ref a4, .ref a5, .ref a6, .ref a7, .int 0, .int 0, .int 0, .int 0, .int 0, .int 0, .int 0, .int 0, .int 0, .int 0, .int 0, .int 0, .int 0])), (a3, .inl (g8, 6, .inl u9))] s.heap := hP
  have hl := lv_entry ([.ref a0, .int 1, .int 0]) (n := 3) (Nat.le_of_ble_eq_true rfl)
  rw [lg_entry_eq]
  generalize (lg_sl ([.ref a0, .int 1, .int 0]) ++ List.replicate (3 - (lg_sl ([.ref a0, .int 1, .int 0])).length) Slot.unset).toArray = ls at hl ⊢
  have hl : lv_has ls 3 [(0, .ref a0), (1, .int 1), (2, .int 0)] := hl
  refine lv_aload_n hx hb dX3_note_0 rfl (lv_at hl 0 rfl) ?_
  refine va_get (D := (dC, dI)) (ci := 3) (v := .ref a3) (C := RX3) (T := TX3) (N := 20) hx hb hts iX3 hown hK hP 0 rfl rfl 2 (by decide) (hts _ k48) (fun _ h9 => h9) rfl dX3_note_1 ?_
  refine lv_iload_n hx hb dX3_note_4 rfl (lv_at hl 1 rfl) ?_
  refine lv_aload_n hx hb dX3_note_5 rfl (lv_at hl 0 rfl) ?_
  refine va_get (D := (dC, dI)) (ci := 3) (v := .ref a3) (C := RX3) (T := TX3) (N := 20) hx hb hts iX3 hown hK hP 0 rfl rfl 2 (by decide) (hts _ k48) (fun _ h9 => h9) rfl dX3_note_6 ?_
  refine lv_iload_n hx hb dX3_note_9 rfl (lv_at hl 1 rfl) ?_
  refine va_iald hx hb hK hP 1 0 rfl rfl (inI (by decide)) dX3_note_10 ?_
  refine lv_topi (fun x1 ex1 => ?_)
  refine lv_iload_n hx hb dX3_note_11 rfl (lv_at hl 2 rfl) ?_
  refine va_mmin hx hb (hml.trans hl.1.symm) hown (hts _ k252) (hts _ k189) (hts _ k190) (hts _ k191) (Nat.le_of_ble_eq_true rfl) (Nat.le_of_ble_eq_true rfl) (Nat.le_of_ble_eq_true rfl) (Nat.le_of_ble_eq_true rfl) dX3_note_12 ?_
  refine lv_topi (fun x2 ex2 => ?_)
  refine ia_any hx hb hK hP hD hS 1 0 rfl rfl (inI (by decide)) dX3_note_15 (fun f3 H locs hP hD hS => ?_)
  have hP : va_P (dC, dI) vwCl [(a0, .inr (3, [.ref a1, .ref a2, .ref a3, .ref a4, .ref a5, .ref a6, .ref a7, .int 0, .int 0, .int 0, .int 0, .int 0, .int 0, .int 0, .int 0, .int 0, .int 0, .int 0, .int 0, .int 0])), (a3, .inl (g8, 6, .inl f3))] H := hP
  have hD : va_D A [(a0, .inr (3, [.ref a1, .ref a2, .ref a3, .ref a4, .ref a5, .ref a6, .ref a7, .int 0, .int 0, .int 0, .int 0, .int 0, .int 0, .int 0, .int 0, .int 0, .int 0, .int 0, .int 0, .int 0])), (a3, .inl (g8, 6, .inl f3))] := hD
  have hP9 := hP.sub (ws' := [(a0, .inr (3, [.ref a1, .ref a2, .ref a3, .ref a4, .ref a5, .ref a6, .ref a7, .int 0, .int 0, .int 0, .int 0, .int 0, .int 0, .int 0, .int 0, .int 0, .int 0, .int 0, .int 0, .int 0])), (a3, .inl (g8, 6, .inl f3))]) [0, 1] rfl
  have hD9 := hD.sub (ws' := [(a0, .inr (3, [.ref a1, .ref a2, .ref a3, .ref a4, .ref a5, .ref a6, .ref a7, .int 0, .int 0, .int 0, .int 0, .int 0, .int 0, .int 0, .int 0, .int 0, .int 0, .int 0, .int 0, .int 0])), (a3, .inl (g8, 6, .inl f3))]) [0, 1] (by decide) rfl
  have hK9 := hK.sub (tys' := [(g8, .int)]) [0] rfl
  refine W.widen (k := 0) (n := 0) (Nat.le_of_ble_eq_true rfl) (Nat.le_of_ble_eq_true rfl) ?_
  exact W.vret hx hb hr (fun t ht hW => ⟨⟨(f3), rfl, trivial, by rw [ht]; exact hP9, va_K.moved hW.alike hK9, hD9⟩, hS.F ht⟩) hS.2.2 dX3_note_16
set_option maxHeartbeats 4000000 in
set_option maxRecDepth 100000 in
theorem c_X3_make_1 (l : Launch) (dC : Nat → ClassId) (dI : Nat → Nat → Nat) (a0 : Nat) (a1 : Nat) (a2 : Nat) (a3 : Nat) (a4 : Nat) (a5 : Nat) (a6 : Nat) (a7 : Nat) (a8 : Nat) (a9 : Nat) (a10 : Nat) (a11 : Nat) (a12 : Nat) (a13 : Nat) (a14 : Nat) (a15 : Nat) (g16 : ClassId) (g17 : ClassId) (g18 : ClassId) (g19 : ClassId) (a20 : Nat) (a21 : Nat) (a22 : Nat) (a23 : Nat) (a24 : Nat) (a25 : Nat) (a26 : Nat) (a27 : Nat) (a28 : Nat) (g29 : ClassId) (g30 : ClassId) (g31 : ClassId) (a32 : Nat) (a33 : Nat) (a34 : Nat) (a35 : Nat) (a36 : Nat) (a37 : Nat) (a38 : Nat) (a39 : Nat) (a40 : Nat) (a41 : Nat) (a42 : Nat) (a43 : Nat) (a44 : Nat) (a45 : Nat) (g46 : ClassId) (u47 : Nat → Int32) (sz : Nat) : Met l yX3_make (Cond.code yX3_make cX3_make 3 (some .int) :: wB) { frames := 3, cells := 0, slots := 0, locals := 67 } (va_Pc [.ref a0, .ref a1] (pX (dC, dI) sz [(a0, .inr (3, [.ref a2, .ref a3, .ref a4, .ref a5, .ref a6, .ref a7, .null, .int 0, .int 0, .int 0, .int 0, .int 0, .int 0, .int 0, .int 0, .int 0, .int 0, .int 0, .int 0, .int 0])), (a2, .inr (9, [.ref a8, .ref a9, .ref a10, .ref a11, .ref a12, .ref a13, .ref a14, .int 0, .ref a15, .int 0, .int 0, .int 0])), (a8, .inl (g16, 2003, .inl (fun _ => 0))), (a9, .inl (g17, 2003, .inl (fun _ => 0))), (a10, .inl (g18, 2003, .inl (fun _ => 0))), (a11, .inl (g19, 2003, .inl (fun _ => 0))), (a3, .inr (0, [.ref a2, .ref a20, .ref a21, .ref a22, .ref a23, .ref a24, .ref a25, .ref a26, .ref a27, .ref a28, .int 0, .int 0, .int 0, .int 0, .int 0, .int 0, .int 0, .int 0])), (a20, .inl (g29, 224, .inl (fun _ => 0))), (a21, .inl (g30, 224, .inl (fun _ => 0))), (a4, .inl (g31, 6, .inl (fun _ => 0))), (a1, .inr (4, [.ref a32, .ref a33, .ref a34, .ref a35, .ref a36, .ref a37, .ref a38, .ref a39, .ref a40, .ref a41, .ref a42, .ref a43, .ref a44, .ref a45, .int 0, .int 0, .int 0, .int 0, .int 0])), (a32, .inl (g46, 2000, .inl u47))] [(g16, .int), (g17, .int), (g18, .int), (g19, .int), (g29, .int), (g30, .boolean), (g31, .int), (g46, .byte)])) (va_Qi (fun (r : Int32) (z : (Nat → Int32) × (Nat → Int32) × (Nat → Int32) × (Nat → Int32) × (Nat → Int32)) => r = 1) (fun z t => qX (dC, dI) [(a1, .inr (4, [.ref a32, .ref a33, .ref a34, .ref a35, .ref a36, .ref a37, .ref a38, .ref a39, .ref a40, .ref a41, .ref a42, .ref a43, .ref a44, .ref a45, .int 0, .int 0, .int 0, .int 0, .int 0])), (a32, .inl (g46, 2000, .inl u47)), (a10, .inl (g18, 2003, .inl z.1)), (a11, .inl (g19, 2003, .inl z.2.1)), (a20, .inl (g29, 224, .inl z.2.2.1)), (a21, .inl (g30, 224, .inl z.2.2.2.1)), (a9, .inl (g17, 2003, .inl (upd (upd (upd (fun _ => 0) 0 0) 1 0) 2 0))), (a2, .inr (9, [.ref a8, .ref a9, .ref a10, .ref a11, .ref a12, .ref a13, .ref a14, .int 0, .ref a32, .int 0, .int 3, .int 0])), (a8, .inl (g16, 2003, .inl (upd (upd (upd (fun _ => 0) 0 0) 1 0) 2 0))), (a3, .inr (0, [.ref a2, .ref a20, .ref a21, .ref a22, .ref a23, .ref a24, .ref a25, .ref a26, .ref a27, .ref a28, .int 1, .int 0, .int 0, .int 0, .int 0, .int 0, .int 0, .int 0])), (a0, .inr (3, [.ref a2, .ref a3, .ref a4, .ref a5, .ref a6, .ref a7, .ref a1, .int 0, .int 0, .int 0, .int 0, .int 0, .int 0, .int 0, .int 0, .int 0, .int 0, .int 0, .int 0, .int 0])), (a4, .inl (g31, 6, .inl z.2.2.2.2))] [(g16, .int), (g17, .int), (g18, .int), (g19, .int), (g29, .int), (g30, .boolean), (g31, .int), (g46, .byte)] (va_A [(a0, .inr (3, [.ref a2, .ref a3, .ref a4, .ref a5, .ref a6, .ref a7, .null, .int 0, .int 0, .int 0, .int 0, .int 0, .int 0, .int 0, .int 0, .int 0, .int 0, .int 0, .int 0, .int 0])), (a2, .inr (9, [.ref a8, .ref a9, .ref a10, .ref a11, .ref a12, .ref a13, .ref a14, .int 0, .ref a15, .int 0, .int 0, .int 0])), (a8, .inl (g16, 2003, .inl (fun _ => 0))), (a9, .inl (g17, 2003, .inl (fun _ => 0))), (a10, .inl (g18, 2003, .inl (fun _ => 0))), (a11, .inl (g19, 2003, .inl (fun _ => 0))), (a3, .inr (0, [.ref a2, .ref a20, .ref a21, .ref a22, .ref a23, .ref a24, .ref a25, .ref a26, .ref a27, .ref a28, .int 0, .int 0, .int 0, .int 0, .int 0, .int 0, .int 0, .int 0])), (a20, .inl (g29, 224, .inl (fun _ => 0))), (a21, .inl (g30, 224, .inl (fun _ => 0))), (a4, .inl (g31, 6, .inl (fun _ => 0))), (a1, .inr (4, [.ref a32, .ref a33, .ref a34, .ref a35, .ref a36, .ref a37, .ref a38, .ref a39, .ref a40, .ref a41, .ref a42, .ref a43, .ref a44, .ref a45, .int 0, .int 0, .int 0, .int 0, .int 0])), (a32, .inl (g46, 2000, .inl u47))] sz) t) (va_A [(a0, .inr (3, [.ref a2, .ref a3, .ref a4, .ref a5, .ref a6, .ref a7, .null, .int 0, .int 0, .int 0, .int 0, .int 0, .int 0, .int 0, .int 0, .int 0, .int 0, .int 0, .int 0, .int 0])), (a2, .inr (9, [.ref a8, .ref a9, .ref a10, .ref a11, .ref a12, .ref a13, .ref a14, .int 0, .ref a15, .int 0, .int 0, .int 0])), (a8, .inl (g16, 2003, .inl (fun _ => 0))), (a9, .inl (g17, 2003, .inl (fun _ => 0))), (a10, .inl (g18, 2003, .inl (fun _ => 0))), (a11, .inl (g19, 2003, .inl (fun _ => 0))), (a3, .inr (0, [.ref a2, .ref a20, .ref a21, .ref a22, .ref a23, .ref a24, .ref a25, .ref a26, .ref a27, .ref a28, .int 0, .int 0, .int 0, .int 0, .int 0, .int 0, .int 0, .int 0])), (a20, .inl (g29, 224, .inl (fun _ => 0))), (a21, .inl (g30, 224, .inl (fun _ => 0))), (a4, .inl (g31, 6, .inl (fun _ => 0))), (a1, .inr (4, [.ref a32, .ref a33, .ref a34, .ref a35, .ref a36, .ref a37, .ref a38, .ref a39, .ref a40, .ref a41, .ref a42, .ref a43, .ref a44, .ref a45, .int 0, .int 0, .int 0, .int 0, .int 0])), (a32, .inl (g46, 2000, .inl u47))] sz)) 0 0 (va_A [(a0, .inr (3, [.ref a2, .ref a3, .ref a4, .ref a5, .ref a6, .ref a7, .null, .int 0, .int 0, .int 0, .int 0, .int 0, .int 0, .int 0, .int 0, .int 0, .int 0, .int 0, .int 0, .int 0])), (a2, .inr (9, [.ref a8, .ref a9, .ref a10, .ref a11, .ref a12, .ref a13, .ref a14, .int 0, .ref a15, .int 0, .int 0, .int 0])), (a8, .inl (g16, 2003, .inl (fun _ => 0))), (a9, .inl (g17, 2003, .inl (fun _ => 0))), (a10, .inl (g18, 2003, .inl (fun _ => 0))), (a11, .inl (g19, 2003, .inl (fun _ => 0))), (a3, .inr (0, [.ref a2, .ref a20, .ref a21, .ref a22, .ref a23, .ref a24, .ref a25, .ref a26, .ref a27, .ref a28, .int 0, .int 0, .int 0, .int 0, .int 0, .int 0, .int 0, .int 0])), (a20, .inl (g29, 224, .inl (fun _ => 0))), (a21, .inl (g30, 224, .inl (fun _ => 0))), (a4, .inl (g31, 6, .inl (fun _ => 0))), (a1, .inr (4, [.ref a32, .ref a33, .ref a34, .ref a35, .ref a36, .ref a37, .ref a38, .ref a39, .ref a40, .ref a41, .ref a42, .ref a43, .ref a44, .ref a45, .int 0, .int 0, .int 0, .int 0, .int 0])), (a32, .inl (g46, 2000, .inl u47))] sz) := by
  refine Met.ofW (cc := cX3_make) (maxL := 3) (ret := (some .int)) (by decide) rfl ?_
  intro p e s m args below meth c s₁ B hml hv
  obtain ⟨rfl, hsz, hP, hK, hD0, hN⟩ := hv
  have hx := B.exec
  have hb := B.bytes
  have hr := B.returns
  have hts : ∀ w ∈ wB, w.before _ s = true := fun w h => atoms_spec (ws := Cond.code yX3_make cX3_make 3 (some .int) :: wB) B.pre w (List.mem_cons_of_mem _ h)
  have hown : s.vm.findClass RX3 = some m.cls := findClass_of_methodNamed B.named
  have hlocks := B.notSynchronized
  subst hsz
  have hD := hD0.self (sz := s.heap.size)
  generalize hAe : va_A [(a0, .inr (3, [.ref a2, .ref a3, .ref a4, .ref a5, .ref a6, .ref a7, .null, .int 0, .int 0, .int 0, .int 0, .int 0, .int 0, .int 0, .int 0, .int 0, .int 0, .int 0, .int 0, .int 0])), (a2, .inr (9, [.ref a8, .ref a9, .ref a10, .ref a11, .ref a12, .ref a13, .ref a14, .int 0, .ref a15, .int 0, .int 0, .int 0])), (a8, .inl (g16, 2003, .inl (fun _ => 0))), (a9, .inl (g17, 2003, .inl (fun _ => 0))), (a10, .inl (g18, 2003, .inl (fun _ => 0))), (a11, .inl (g19, 2003, .inl (fun _ => 0))), (a3, .inr (0, [.ref a2, .ref a20, .ref a21, .ref a22, .ref a23, .ref a24, .ref a25, .ref a26, .ref a27, .ref a28, .int 0, .int 0, .int 0, .int 0, .int 0, .int 0, .int 0, .int 0])), (a20, .inl (g29, 224, .inl (fun _ => 0))), (a21, .inl (g30, 224, .inl (fun _ => 0))), (a4, .inl (g31, 6, .inl (fun _ => 0))), (a1, .inr (4, [.ref a32, .ref a33, .ref a34, .ref a35, .ref a36, .ref a37, .ref a38, .ref a39, .ref a40, .ref a41, .ref a42, .ref a43, .ref a44, .ref a45, .int 0, .int 0, .int 0, .int 0, .int 0])), (a32, .inl (g46, 2000, .inl u47))] s.heap.size = A at hD ⊢
  have hA : ∀ q : Nat, s.heap.size ≤ q → A q := fun q h => by rw [← hAe]; exact Or.inr h
  have hS : va_S A s.heap s.heap [] := va_S.rf
  have hP : va_P (dC, dI) vwCl [(a0, .inr (3, [.ref a2, .ref a3, .ref a4, .ref a5, .ref a6, .ref a7, .null, .int 0, .int 0, .int 0, .int 0, .int 0, .int 0, .int 0, .int 0, .int 0, .int 0, .int 0, .int 0, .int 0])), (a2, .inr (9, [.ref a8, .ref a9, .ref a10, .ref a11, .ref a12, .ref a13, .ref a14, .int 0, .ref a15, .int 0, .int 0, .int 0])), (a8, .inl (g16, 2003, .inl (fun _ => 0))), (a9, .inl (g17, 2003, .inl (fun _ => 0))), (a10, .inl (g18, 2003, .inl (fun _ => 0))), (a11, .inl (g19, 2003, .inl (fun _ => 0))), (a3, .inr (0, [.ref a2, .ref a20, .ref a21, .ref a22, .ref a23, .ref a24, .ref a25, .ref a26, .ref a27, .ref a28, .int 0, .int 0, .int 0, .int 0, .int 0, .int 0, .int 0, .int 0])), (a20, .inl (g29, 224, .inl (fun _ => 0))), (a21, .inl (g30, 224, .inl (fun _ => 0))), (a4, .inl (g31, 6, .inl (fun _ => 0))), (a1, .inr (4, [.ref a32, .ref a33, .ref a34, .ref a35, .ref a36, .ref a37, .ref a38, .ref a39, .ref a40, .ref a41, .ref a42, .ref a43, .ref a44, .ref a45, .int 0, .int 0, .int 0, .int 0, .int 0])), (a32, .inl (g46, 2000, .inl u47))] s.heap := hP
  have hl := lv_entry ([.ref a0, .ref a1]) (n := 3) (Nat.le_of_ble_eq_true rfl)
  rw [lg_entry_eq]
  generalize (lg_sl ([.ref a0, .ref a1]) ++ List.replicate (3 - (lg_sl ([.ref a0, .ref a1])).length) Slot.unset).toArray = ls at hl ⊢
  have hl : lv_has ls 3 [(0, .ref a0), (1, .ref a1)] := hl
  refine lv_aload_n hx hb dX3_make_0 rfl (lv_at hl 0 rfl) ?_
  refine lv_aload_n hx hb dX3_make_1 rfl (lv_at hl 1 rfl) ?_
  refine va_put (D := (dC, dI)) (ci := 3) (v := .ref a1) (ty := (.object "FrostHouse$Program")) (C := RX3) (T := TX3) (N := 20) hx hb hts iX3 tyX3 tyX3_ok nmX3 hown hK hP hD hS 0 rfl rfl 6 (by decide) (hts _ k200) (fun _ h9 => h9) rfl (by decide +kernel) rfl rfl (Nat.le_of_ble_eq_true rfl) dX3_make_2 (fun H locs hP hD hS => ?_)
  have hP : va_P (dC, dI) vwCl [(a0, .inr (3, [.ref a2, .ref a3, .ref a4, .ref a5, .ref a6, .ref a7, .ref a1, .int 0, .int 0, .int 0, .int 0, .int 0, .int 0, .int 0, .int 0, .int 0, .int 0, .int 0, .int 0, .int 0])), (a2, .inr (9, [.ref a8, .ref a9, .ref a10, .ref a11, .ref a12, .ref a13, .ref a14, .int 0, .ref a15, .int 0, .int 0, .int 0])), (a8, .inl (g16, 2003, .inl (fun _ => 0))), (a9, .inl (g17, 2003, .inl (fun _ => 0))), (a10, .inl (g18, 2003, .inl (fun _ => 0))), (a11, .inl (g19, 2003, .inl (fun _ => 0))), (a3, .inr (0, [.ref a2, .ref a20, .ref a21, .ref a22, .ref a23, .ref a24, .ref a25, .ref a26, .ref a27, .ref a28, .int 0, .int 0, .int 0, .int 0, .int 0, .int 0, .int 0, .int 0])), (a20, .inl (g29, 224, .inl (fun _ => 0))), (a21, .inl (g30, 224, .inl (fun _ => 0))), (a4, .inl (g31, 6, .inl (fun _ => 0))), (a1, .inr (4, [.ref a32, .ref a33, .ref a34, .ref a35, .ref a36, .ref a37, .ref a38, .ref a39, .ref a40, .ref a41, .ref a42, .ref a43, .ref a44, .ref a45, .int 0, .int 0, .int 0, .int 0, .int 0])), (a32, .inl (g46, 2000, .inl u47))] H := hP
  have hD : va_D A [(a0, .inr (3, [.ref a2, .ref a3, .ref a4, .ref a5, .ref a6, .ref a7, .ref a1, .int 0, .int 0, .int 0, .int 0, .int 0, .int 0, .int 0, .int 0, .int 0, .int 0, .int 0, .int 0, .int 0])), (a2, .inr (9, [.ref a8, .ref a9, .ref a10, .ref a11, .ref a12, .ref a13, .ref a14, .int 0, .ref a15, .int 0, .int 0, .int 0])), (a8, .inl (g16, 2003, .inl (fun _ => 0))), (a9, .inl (g17, 2003, .inl (fun _ => 0))), (a10, .inl (g18, 2003, .inl (fun _ => 0))), (a11, .inl (g19, 2003, .inl (fun _ => 0))), (a3, .inr (0, [.ref a2, .ref a20, .ref a21, .ref a22, .ref a23, .ref a24, .ref a25, .ref a26, .ref a27, .ref a28, .int 0, .int 0, .int 0, .int 0, .int 0, .int 0, .int 0, .int 0])), (a20, .inl (g29, 224, .inl (fun _ => 0))), (a21, .inl (g30, 224, .inl (fun _ => 0))), (a4, .inl (g31, 6, .inl (fun _ => 0))), (a1, .inr (4, [.ref a32, .ref a33, .ref a34, .ref a35, .ref a36, .ref a37, .ref a38, .ref a39, .ref a40, .ref a41, .ref a42, .ref a43, .ref a44, .ref a45, .int 0, .int 0, .int 0, .int 0, .int 0])), (a32, .inl (g46, 2000, .inl u47))] := hD
  refine lv_aload_n hx hb dX3_make_5 rfl (lv_at hl 0 rfl) ?_
  refine va_get (D := (dC, dI)) (ci := 3) (v := .ref a4) (C := RX3) (T := TX3) (N := 20) hx hb hts iX3 hown hK hP 0 rfl rfl 2 (by decide) (hts _ k48) (fun _ h9 => h9) rfl dX3_make_6 ?_
  refine lv_ldc (own := RX3) (v := 2147483647) hx hb hown (hts _ k201) dX3_make_9 ?_
  refine xS_v (n := 2) (As := [.ref a4, .int 2147483647]) (rest := []) (wc := [(a4, .inl (g31, 6, .inl (fun _ => 0)))]) (wr := [(a0, .inr (3, [.ref a2, .ref a3, .ref a4, .ref a5, .ref a6, .ref a7, .ref a1, .int 0, .int 0, .int 0, .int 0, .int 0, .int 0, .int 0, .int 0, .int 0, .int 0, .int 0, .int 0, .int 0])), (a2, .inr (9, [.ref a8, .ref a9, .ref a10, .ref a11, .ref a12, .ref a13, .ref a14, .int 0, .ref a15, .int 0, .int 0, .int 0])), (a8, .inl (g16, 2003, .inl (fun _ => 0))), (a9, .inl (g17, 2003, .inl (fun _ => 0))), (a10, .inl (g18, 2003, .inl (fun _ => 0))), (a11, .inl (g19, 2003, .inl (fun _ => 0))), (a3, .inr (0, [.ref a2, .ref a20, .ref a21, .ref a22, .ref a23, .ref a24, .ref a25, .ref a26, .ref a27, .ref a28, .int 0, .int 0, .int 0, .int 0, .int 0, .int 0, .int 0, .int 0])), (a20, .inl (g29, 224, .inl (fun _ => 0))), (a21, .inl (g30, 224, .inl (fun _ => 0))), (a1, .inr (4, [.ref a32, .ref a33, .ref a34, .ref a35, .ref a36, .ref a37, .ref a38, .ref a39, .ref a40, .ref a41, .ref a42, .ref a43, .ref a44, .ref a45, .int 0, .int 0, .int 0, .int 0, .int 0])), (a32, .inl (g46, 2000, .inl u47))]) (tc := [(g31, .int)]) ⟨hx, hb, hml, hown, hts⟩ (c_J7_fill_53178_1 l dC dI a4 g31 H.size) ⟨k202, k203, k204, k205⟩ (by decide +kernel) rfl ⟨Nat.le_of_ble_eq_true rfl, Nat.le_of_ble_eq_true rfl⟩ ⟨Nat.le_of_ble_eq_true rfl, Nat.le_of_ble_eq_true rfl⟩ hK hP hD hS hA hN [9] [0, 1, 2, 3, 4, 5, 6, 7, 8, 10, 11] [6] rfl rfl (by decide) (by decide) rfl hl.1 rfl (Nat.le_of_ble_eq_true rfl) dX3_make_11 (fun f1 H locs hw hK hP hD hS => ?_)
  have hK : va_K (dC, dI) vwCl [(g16, .int), (g17, .int), (g18, .int), (g19, .int), (g29, .int), (g30, .boolean), (g31, .int), (g46, .byte), (g31, .int)] s := hK
  have hP : va_P (dC, dI) vwCl [(a0, .inr (3, [.ref a2, .ref a3, .ref a4, .ref a5, .ref a6, .ref a7, .ref a1, .int 0, .int 0, .int 0, .int 0, .int 0, .int 0, .int 0, .int 0, .int 0, .int 0, .int 0, .int 0, .int 0])), (a2, .inr (9, [.ref a8, .ref a9, .ref a10, .ref a11, .ref a12, .ref a13, .ref a14, .int 0, .ref a15, .int 0, .int 0, .int 0])), (a8, .inl (g16, 2003, .inl (fun _ => 0))), (a9, .inl (g17, 2003, .inl (fun _ => 0))), (a10, .inl (g18, 2003, .inl (fun _ => 0))), (a11, .inl (g19, 2003, .inl (fun _ => 0))), (a3, .inr (0, [.ref a2, .ref a20, .ref a21, .ref a22, .ref a23, .ref a24, .ref a25, .ref a26, .ref a27, .ref a28, .int 0, .int 0, .int 0, .int 0, .int 0, .int 0, .int 0, .int 0])), (a20, .inl (g29, 224, .inl (fun _ => 0))), (a21, .inl (g30, 224, .inl (fun _ => 0))), (a1, .inr (4, [.ref a32, .ref a33, .ref a34, .ref a35, .ref a36, .ref a37, .ref a38, .ref a39, .ref a40, .ref a41, .ref a42, .ref a43, .ref a44, .ref a45, .int 0, .int 0, .int 0, .int 0, .int 0])), (a32, .inl (g46, 2000, .inl u47)), (a4, .inl (g31, 6, .inl f1))] H := hP
  have hD : va_D A [(a0, .inr (3, [.ref a2, .ref a3, .ref a4, .ref a5, .ref a6, .ref a7, .ref a1, .int 0, .int 0, .int 0, .int 0, .int 0, .int 0, .int 0, .int 0, .int 0, .int 0, .int 0, .int 0, .int 0])), (a2, .inr (9, [.ref a8, .ref a9, .ref a10, .ref a11, .ref a12, .ref a13, .ref a14, .int 0, .ref a15, .int 0, .int 0, .int 0])), (a8, .inl (g16, 2003, .inl (fun _ => 0))), (a9, .inl (g17, 2003, .inl (fun _ => 0))), (a10, .inl (g18, 2003, .inl (fun _ => 0))), (a11, .inl (g19, 2003, .inl (fun _ => 0))), (a3, .inr (0, [.ref a2, .ref a20, .ref a21, .ref a22, .ref a23, .ref a24, .ref a25, .ref a26, .ref a27, .ref a28, .int 0, .int 0, .int 0, .int 0, .int 0, .int 0, .int 0, .int 0])), (a20, .inl (g29, 224, .inl (fun _ => 0))), (a21, .inl (g30, 224, .inl (fun _ => 0))), (a1, .inr (4, [.ref a32, .ref a33, .ref a34, .ref a35, .ref a36, .ref a37, .ref a38, .ref a39, .ref a40, .ref a41, .ref a42, .ref a43, .ref a44, .ref a45, .int 0, .int 0, .int 0, .int 0, .int 0])), (a32, .inl (g46, 2000, .inl u47)), (a4, .inl (g31, 6, .inl f1))] := hD
  refine W.widen (k := 0) (n := 0) (Nat.le_of_ble_eq_true rfl) (Nat.le_of_ble_eq_true rfl) ?_
  have hK := hK.sub (tys' := [(g16, .int), (g17, .int), (g18, .int), (g19, .int), (g29, .int), (g30, .boolean), (g31, .int), (g46, .byte)]) [0, 1, 2, 3, 4, 5, 6, 7] rfl
  refine lv_aload_n hx hb dX3_make_14 rfl (lv_at hl 1 rfl) ?_
  refine va_get (D := (dC, dI)) (ci := 4) (v := .int 0) (C := RX4) (T := TX4) (N := 19) hx hb hts iX4 hown hK hP 9 rfl rfl 14 (by decide) (hts _ k206) (fun _ h9 => h9) rfl dX3_make_15 ?_
  refine lv_sipush (v := 2000) hx hb dX3_make_18 (by decide) ?_
  refine lv_icmp_le (tgt := 34) hx hb dX3_make_21 (by decide) (fun _ => ?_) (fun c9 => absurd c9 (by decide))
  refine lv_aload_n hx hb dX3_make_34 rfl (lv_at hl 0 rfl) ?_
  refine va_get (D := (dC, dI)) (ci := 3) (v := .ref a2) (C := RX3) (T := TX3) (N := 20) hx hb hts iX3 hown hK hP 0 rfl rfl 0 (by decide) (hts _ k28) (fun _ h9 => h9) rfl dX3_make_35 ?_
  refine lv_aload_n hx hb dX3_make_38 rfl (lv_at hl 1 rfl) ?_
  refine va_get (D := (dC, dI)) (ci := 4) (v := .ref a32) (C := RX4) (T := TX4) (N := 19) hx hb hts iX4 hown hK hP 9 rfl rfl 0 (by decide) (hts _ k207) (fun _ h9 => h9) rfl dX3_make_39 ?_
  refine lv_aload_n hx hb dX3_make_42 rfl (lv_at hl 1 rfl) ?_
  refine va_get (D := (dC, dI)) (ci := 4) (v := .int 0) (C := RX4) (T := TX4) (N := 19) hx hb hts iX4 hown hK hP 9 rfl rfl 14 (by decide) (hts _ k206) (fun _ h9 => h9) rfl dX3_make_43 ?_
  refine xV_v (n := 2) (As := [.ref a32, .int 0]) (rest := []) (wc := [(a2, .inr (9, [.ref a8, .ref a9, .ref a10, .ref a11, .ref a12, .ref a13, .ref a14, .int 0, .ref a15, .int 0, .int 0, .int 0])), (a8, .inl (g16, 2003, .inl (fun _ => 0))), (a9, .inl (g17, 2003, .inl (fun _ => 0))), (a10, .inl (g18, 2003, .inl (fun _ => 0))), (a11, .inl (g19, 2003, .inl (fun _ => 0))), (a32, .inl (g46, 2000, .inl u47))]) (wr := [(a0, .inr (3, [.ref a2, .ref a3, .ref a4, .ref a5, .ref a6, .ref a7, .ref a1, .int 0, .int 0, .int 0, .int 0, .int 0, .int 0, .int 0, .int 0, .int 0, .int 0, .int 0, .int 0, .int 0])), (a3, .inr (0, [.ref a2, .ref a20, .ref a21, .ref a22, .ref a23, .ref a24, .ref a25, .ref a26, .ref a27, .ref a28, .int 0, .int 0, .int 0, .int 0, .int 0, .int 0, .int 0, .int 0])), (a20, .inl (g29, 224, .inl (fun _ => 0))), (a21, .inl (g30, 224, .inl (fun _ => 0))), (a1, .inr (4, [.ref a32, .ref a33, .ref a34, .ref a35, .ref a36, .ref a37, .ref a38, .ref a39, .ref a40, .ref a41, .ref a42, .ref a43, .ref a44, .ref a45, .int 0, .int 0, .int 0, .int 0, .int 0])), (a4, .inl (g31, 6, .inl f1))]) (tc := [(g16, .int), (g17, .int), (g18, .int), (g19, .int), (g46, .byte)]) ⟨hx, hb, hml, hown, hts⟩ (c_X9_readAll_1 l dC dI a2 a32 a8 a9 a10 a11 a12 a13 a14 a15 g16 g17 g18 g19 g46 u47 H.size) ⟨k217, k218, k219, k14, k220⟩ (by decide +kernel) rfl ⟨Nat.le_of_ble_eq_true rfl, Nat.le_of_ble_eq_true rfl⟩ ⟨Nat.le_of_ble_eq_true rfl, Nat.le_of_ble_eq_true rfl⟩ hK hP hD hS hA hN [1, 2, 3, 4, 5, 10] [0, 6, 7, 8, 9, 11] [0, 1, 2, 3, 7] rfl rfl (by decide) (by decide) rfl 0 rfl rfl hl.1 rfl (Nat.le_of_ble_eq_true rfl) dX3_make_46 (fun z H locs hw hK hP hD hS => ?_)
  obtain ⟨f2, f3⟩ := z
  have hK : va_K (dC, dI) vwCl [(g16, .int), (g17, .int), (g18, .int), (g19, .int), (g29, .int), (g30, .boolean), (g31, .int), (g46, .byte), (g16, .int), (g17, .int), (g18, .int), (g19, .int), (g46, .byte)] s := hK
  have hP : va_P (dC, dI) vwCl [(a0, .inr (3, [.ref a2, .ref a3, .ref a4, .ref a5, .ref a6, .ref a7, .ref a1, .int 0, .int 0, .int 0, .int 0, .int 0, .int 0, .int 0, .int 0, .int 0, .int 0, .int 0, .int 0, .int 0])), (a3, .inr (0, [.ref a2, .ref a20, .ref a21, .ref a22, .ref a23, .ref a24, .ref a25, .ref a26, .ref a27, .ref a28, .int 0, .int 0, .int 0, .int 0, .int 0, .int 0, .int 0, .int 0])), (a20, .inl (g29, 224, .inl (fun _ => 0))), (a21, .inl (g30, 224, .inl (fun _ => 0))), (a1, .inr (4, [.ref a32, .ref a33, .ref a34, .ref a35, .ref a36, .ref a37, .ref a38, .ref a39, .ref a40, .ref a41, .ref a42, .ref a43, .ref a44, .ref a45, .int 0, .int 0, .int 0, .int 0, .int 0])), (a4, .inl (g31, 6, .inl f1)), (a32, .inl (g46, 2000, .inl u47)), (a2, .inr (9, [.ref a8, .ref a9, .ref a10, .ref a11, .ref a12, .ref a13, .ref a14, .int 0, .ref a32, .int 0, .int 3, .int 0])), (a8, .inl (g16, 2003, .inl (upd (upd (upd (fun _ => 0) 0 0) 1 0) 2 0))), (a9, .inl (g17, 2003, .inl (upd (upd (upd (fun _ => 0) 0 0) 1 0) 2 0))), (a10, .inl (g18, 2003, .inl f2)), (a11, .inl (g19, 2003, .inl f3))] H := hP
  have hD : va_D A [(a0, .inr (3, [.ref a2, .ref a3, .ref a4, .ref a5, .ref a6, .ref a7, .ref a1, .int 0, .int 0, .int 0, .int 0, .int 0, .int 0, .int 0, .int 0, .int 0, .int 0, .int 0, .int 0, .int 0])), (a3, .inr (0, [.ref a2, .ref a20, .ref a21, .ref a22, .ref a23, .ref a24, .ref a25, .ref a26, .ref a27, .ref a28, .int 0, .int 0, .int 0, .int 0, .int 0, .int 0, .int 0, .int 0])), (a20, .inl (g29, 224, .inl (fun _ => 0))), (a21, .inl (g30, 224, .inl (fun _ => 0))), (a1, .inr (4, [.ref a32, .ref a33, .ref a34, .ref a35, .ref a36, .ref a37, .ref a38, .ref a39, .ref a40, .ref a41, .ref a42, .ref a43, .ref a44, .ref a45, .int 0, .int 0, .int 0, .int 0, .int 0])), (a4, .inl (g31, 6, .inl f1)), (a32, .inl (g46, 2000, .inl u47)), (a2, .inr (9, [.ref a8, .ref a9, .ref a10, .ref a11, .ref a12, .ref a13, .ref a14, .int 0, .ref a32, .int 0, .int 3, .int 0])), (a8, .inl (g16, 2003, .inl (upd (upd (upd (fun _ => 0) 0 0) 1 0) 2 0))), (a9, .inl (g17, 2003, .inl (upd (upd (upd (fun _ => 0) 0 0) 1 0) 2 0))), (a10, .inl (g18, 2003, .inl f2)), (a11, .inl (g19, 2003, .inl f3))] := hD
  refine W.widen (k := 0) (n := 0) (Nat.le_of_ble_eq_true rfl) (Nat.le_of_ble_eq_true rfl) ?_
  have hK := hK.sub (tys' := [(g16, .int), (g17, .int), (g18, .int), (g19, .int), (g29, .int), (g30, .boolean), (g31, .int), (g46, .byte)]) [0, 1, 2, 3, 4, 5, 6, 7] rfl
  refine lv_aload_n hx hb dX3_make_49 rfl (lv_at hl 0 rfl) ?_
  refine va_get (D := (dC, dI)) (ci := 3) (v := .ref a3) (C := RX3) (T := TX3) (N := 20) hx hb hts iX3 hown hK hP 0 rfl rfl 1 (by decide) (hts _ k47) (fun _ h9 => h9) rfl dX3_make_50 ?_
  refine xV_v (n := 0) (As := []) (rest := []) (wc := [(a3, .inr (0, [.ref a2, .ref a20, .ref a21, .ref a22, .ref a23, .ref a24, .ref a25, .ref a26, .ref a27, .ref a28, .int 0, .int 0, .int 0, .int 0, .int 0, .int 0, .int 0, .int 0])), (a20, .inl (g29, 224, .inl (fun _ => 0))), (a21, .inl (g30, 224, .inl (fun _ => 0))), (a2, .inr (9, [.ref a8, .ref a9, .ref a10, .ref a11, .ref a12, .ref a13, .ref a14, .int 0, .ref a32, .int 0, .int 3, .int 0])), (a8, .inl (g16, 2003, .inl (upd (upd (upd (fun _ => 0) 0 0) 1 0) 2 0))), (a9, .inl (g17, 2003, .inl (upd (upd (upd (fun _ => 0) 0 0) 1 0) 2 0)))]) (wr := [(a0, .inr (3, [.ref a2, .ref a3, .ref a4, .ref a5, .ref a6, .ref a7, .ref a1, .int 0, .int 0, .int 0, .int 0, .int 0, .int 0, .int 0, .int 0, .int 0, .int 0, .int 0, .int 0, .int 0])), (a1, .inr (4, [.ref a32, .ref a33, .ref a34, .ref a35, .ref a36, .ref a37, .ref a38, .ref a39, .ref a40, .ref a41, .ref a42, .ref a43, .ref a44, .ref a45, .int 0, .int 0, .int 0, .int 0, .int 0])), (a4, .inl (g31, 6, .inl f1)), (a32, .inl (g46, 2000, .inl u47)), (a10, .inl (g18, 2003, .inl f2)), (a11, .inl (g19, 2003, .inl f3))]) (tc := [(g16, .int), (g17, .int), (g29, .int), (g30, .boolean)]) ⟨hx, hb, hml, hown, hts⟩ (c_X0_readProgram_1 l dC dI a3 a2 a20 a21 a22 a23 a24 a25 a26 a27 a28 g29 g30 a8 a9 a10 a11 a12 a13 a14 a32 g16 g17 H.size) ⟨k247, k248, k249, k31, k250⟩ (by decide +kernel) rfl ⟨Nat.le_of_ble_eq_true rfl, Nat.le_of_ble_eq_true rfl⟩ ⟨Nat.le_of_ble_eq_true rfl, Nat.le_of_ble_eq_true rfl⟩ hK hP hD hS hA hN [1, 2, 3, 7, 8, 9] [0, 4, 5, 6, 10, 11] [0, 1, 4, 5] rfl rfl (by decide) (by decide) rfl 0 rfl rfl hl.1 rfl (Nat.le_of_ble_eq_true rfl) dX3_make_53 (fun z H locs hw hK hP hD hS => ?_)
  obtain ⟨f4, f5⟩ := z
  have hK : va_K (dC, dI) vwCl [(g16, .int), (g17, .int), (g18, .int), (g19, .int), (g29, .int), (g30, .boolean), (g31, .int), (g46, .byte), (g16, .int), (g17, .int), (g29, .int), (g30, .boolean)] s := hK
  have hP : va_P (dC, dI) vwCl [(a0, .inr (3, [.ref a2, .ref a3, .ref a4, .ref a5, .ref a6, .ref a7, .ref a1, .int 0, .int 0, .int 0, .int 0, .int 0, .int 0, .int 0, .int 0, .int 0, .int 0, .int 0, .int 0, .int 0])), (a1, .inr (4, [.ref a32, .ref a33, .ref a34, .ref a35, .ref a36, .ref a37, .ref a38, .ref a39, .ref a40, .ref a41, .ref a42, .ref a43, .ref a44, .ref a45, .int 0, .int 0, .int 0, .int 0, .int 0])), (a4, .inl (g31, 6, .inl f1)), (a32, .inl (g46, 2000, .inl u47)), (a10, .inl (g18, 2003, .inl f2)), (a11, .inl (g19, 2003, .inl f3)), (a20, .inl (g29, 224, .inl f4)), (a21, .inl (g30, 224, .inl f5)), (a9, .inl (g17, 2003, .inl (upd (upd (upd (fun _ => 0) 0 0) 1 0) 2 0))), (a2, .inr (9, [.ref a8, .ref a9, .ref a10, .ref a11, .ref a12, .ref a13, .ref a14, .int 0, .ref a32, .int 0, .int 3, .int 0])), (a8, .inl (g16, 2003, .inl (upd (upd (upd (fun _ => 0) 0 0) 1 0) 2 0))), (a3, .inr (0, [.ref a2, .ref a20, .ref a21, .ref a22, .ref a23, .ref a24, .ref a25, .ref a26, .ref a27, .ref a28, .int 1, .int 0, .int 0, .int 0, .int 0, .int 0, .int 0, .int 0]))] H := hP
  have hD : va_D A [(a0, .inr (3, [.ref a2, .ref a3, .ref a4, .ref a5, .ref a6, .ref a7, .ref a1, .int 0, .int 0, .int 0, .int 0, .int 0, .int 0, .int 0, .int 0, .int 0, .int 0, .int 0, .int 0, .int 0])), (a1, .inr (4, [.ref a32, .ref a33, .ref a34, .ref a35, .ref a36, .ref a37, .ref a38, .ref a39, .ref a40, .ref a41, .ref a42, .ref a43, .ref a44, .ref a45, .int 0, .int 0, .int 0, .int 0, .int 0])), (a4, .inl (g31, 6, .inl f1)), (a32, .inl (g46, 2000, .inl u47)), (a10, .inl (g18, 2003, .inl f2)), (a11, .inl (g19, 2003, .inl f3)), (a20, .inl (g29, 224, .inl f4)), (a21, .inl (g30, 224, .inl f5)), (a9, .inl (g17, 2003, .inl (upd (upd (upd (fun _ => 0) 0 0) 1 0) 2 0))), (a2, .inr (9, [.ref a8, .ref a9, .ref a10, .ref a11, .ref a12, .ref a13, .ref a14, .int 0, .ref a32, .int 0, .int 3, .int 0])), (a8, .inl (g16, 2003, .inl (upd (upd (upd (fun _ => 0) 0 0) 1 0) 2 0))), (a3, .inr (0, [.ref a2, .ref a20, .ref a21, .ref a22, .ref a23, .ref a24, .ref a25, .ref a26, .ref a27, .ref a28, .int 1, .int 0, .int 0, .int 0, .int 0, .int 0, .int 0, .int 0]))] := hD
  refine W.widen (k := 0) (n := 0) (Nat.le_of_ble_eq_true rfl) (Nat.le_of_ble_eq_true rfl) ?_
  have hK := hK.sub (tys' := [(g16, .int), (g17, .int), (g18, .int), (g19, .int), (g29, .int), (g30, .boolean), (g31, .int), (g46, .byte)]) [0, 1, 2, 3, 4, 5, 6, 7] rfl
  refine lv_aload_n hx hb dX3_make_56 rfl (lv_at hl 0 rfl) ?_
  refine va_get (D := (dC, dI)) (ci := 3) (v := .ref a3) (C := RX3) (T := TX3) (N := 20) hx hb hts iX3 hown hK hP 0 rfl rfl 1 (by decide) (hts _ k47) (fun _ h9 => h9) rfl dX3_make_57 ?_
  refine va_get (D := (dC, dI)) (ci := 0) (v := .int 0) (C := RX0) (T := TX0) (N := 18) hx hb hts iX0 hown hK hP 11 rfl rfl 14 (by decide) (hts _ k251) (fun _ h9 => h9) rfl dX3_make_60 ?_
  refine lv_iconst (v := (-1)) hx hb dX3_make_63 (by decide) ?_
  refine lv_icmp_eq (tgt := 81) hx hb dX3_make_64 (by decide) (fun c9 => absurd c9 (by decide)) (fun _ => ?_)
  refine lv_aload_n hx hb dX3_make_67 rfl (lv_at hl 0 rfl) ?_
  refine lv_iconst (v := 1) hx hb dX3_make_68 (by decide) ?_
  refine lv_aload_n hx hb dX3_make_69 rfl (lv_at hl 0 rfl) ?_
  refine va_get (D := (dC, dI)) (ci := 3) (v := .ref a3) (C := RX3) (T := TX3) (N := 20) hx hb hts iX3 hown hK hP 0 rfl rfl 1 (by decide) (hts _ k47) (fun _ h9 => h9) rfl dX3_make_70 ?_
  refine va_get (D := (dC, dI)) (ci := 0) (v := .int 0) (C := RX0) (T := TX0) (N := 18) hx hb hts iX0 hown hK hP 11 rfl rfl 14 (by decide) (hts _ k251) (fun _ h9 => h9) rfl dX3_make_73 ?_
  refine xV_v (n := 2) (As := [.int 1, .int 0]) (rest := []) (wc := [(a0, .inr (3, [.ref a2, .ref a3, .ref a4, .ref a5, .ref a6, .ref a7, .ref a1, .int 0, .int 0, .int 0, .int 0, .int 0, .int 0, .int 0, .int 0, .int 0, .int 0, .int 0, .int 0, .int 0])), (a4, .inl (g31, 6, .inl f1))]) (wr := [(a1, .inr (4, [.ref a32, .ref a33, .ref a34, .ref a35, .ref a36, .ref a37, .ref a38, .ref a39, .ref a40, .ref a41, .ref a42, .ref a43, .ref a44, .ref a45, .int 0, .int 0, .int 0, .int 0, .int 0])), (a32, .inl (g46, 2000, .inl u47)), (a10, .inl (g18, 2003, .inl f2)), (a11, .inl (g19, 2003, .inl f3)), (a20, .inl (g29, 224, .inl f4)), (a21, .inl (g30, 224, .inl f5)), (a9, .inl (g17, 2003, .inl (upd (upd (upd (fun _ => 0) 0 0) 1 0) 2 0))), (a2, .inr (9, [.ref a8, .ref a9, .ref a10, .ref a11, .ref a12, .ref a13, .ref a14, .int 0, .ref a32, .int 0, .int 3, .int 0])), (a8, .inl (g16, 2003, .inl (upd (upd (upd (fun _ => 0) 0 0) 1 0) 2 0))), (a3, .inr (0, [.ref a2, .ref a20, .ref a21, .ref a22, .ref a23, .ref a24, .ref a25, .ref a26, .ref a27, .ref a28, .int 1, .int 0, .int 0, .int 0, .int 0, .int 0, .int 0, .int 0]))]) (tc := [(g31, .int)]) ⟨hx, hb, hml, hown, hts⟩ (c_X3_note_1 l dC dI a0 a2 a3 a4 a5 a6 a7 a1 g31 f1 H.size) ⟨k253, k254, k255, k10, k256⟩ (by decide +kernel) rfl ⟨Nat.le_of_ble_eq_true rfl, Nat.le_of_ble_eq_true rfl⟩ ⟨Nat.le_of_ble_eq_true rfl, Nat.le_of_ble_eq_true rfl⟩ hK hP hD hS hA hN [0, 2] [1, 3, 4, 5, 6, 7, 8, 9, 10, 11] [6] rfl rfl (by decide) (by decide) rfl 0 rfl rfl hl.1 rfl (Nat.le_of_ble_eq_true rfl) dX3_make_76 (fun f6 H locs hw hK hP hD hS => ?_)
  have hK : va_K (dC, dI) vwCl [(g16, .int), (g17, .int), (g18, .int), (g19, .int), (g29, .int), (g30, .boolean), (g31, .int), (g46, .byte), (g31, .int)] s := hK
  have hP : va_P (dC, dI) vwCl [(a1, .inr (4, [.ref a32, .ref a33, .ref a34, .ref a35, .ref a36, .ref a37, .ref a38, .ref a39, .ref a40, .ref a41, .ref a42, .ref a43, .ref a44, .ref a45, .int 0, .int 0, .int 0, .int 0, .int 0])), (a32, .inl (g46, 2000, .inl u47)), (a10, .inl (g18, 2003, .inl f2)), (a11, .inl (g19, 2003, .inl f3)), (a20, .inl (g29, 224, .inl f4)), (a21, .inl (g30, 224, .inl f5)), (a9, .inl (g17, 2003, .inl (upd (upd (upd (fun _ => 0) 0 0) 1 0) 2 0))), (a2, .inr (9, [.ref a8, .ref a9, .ref a10, .ref a11, .ref a12, .ref a13, .ref a14, .int 0, .ref a32, .int 0, .int 3, .int 0])), (a8, .inl (g16, 2003, .inl (upd (upd (upd (fun _ => 0) 0 0) 1 0) 2 0))), (a3, .inr (0, [.ref a2, .ref a20, .ref a21, .ref a22, .ref a23, .ref a24, .ref a25, .ref a26, .ref a27, .ref a28, .int 1, .int 0, .int 0, .int 0, .int 0, .int 0, .int 0, .int 0])), (a0, .inr (3, [.ref a2, .ref a3, .ref a4, .ref a5, .ref a6, .ref a7, .ref a1, .int 0, .int 0, .int 0, .int 0, .int 0, .int 0, .int 0, .int 0, .int 0, .int 0, .int 0, .int 0, .int 0])), (a4, .inl (g31, 6, .inl f6))] H := hP
  have hD : va_D A [(a1, .inr (4, [.ref a32, .ref a33, .ref a34, .ref a35, .ref a36, .ref a37, .ref a38, .ref a39, .ref a40, .ref a41, .ref a42, .ref a43, .ref a44, .ref a45, .int 0, .int 0, .int 0, .int 0, .int 0])), (a32, .inl (g46, 2000, .inl u47)), (a10, .inl (g18, 2003, .inl f2)), (a11, .inl (g19, 2003, .inl f3)), (a20, .inl (g29, 224, .inl f4)), (a21, .inl (g30, 224, .inl f5)), (a9, .inl (g17, 2003, .inl (upd (upd (upd (fun _ => 0) 0 0) 1 0) 2 0))), (a2, .inr (9, [.ref a8, .ref a9, .ref a10, .ref a11, .ref a12, .ref a13, .ref a14, .int 0, .ref a32, .int 0, .int 3, .int 0])), (a8, .inl (g16, 2003, .inl (upd (upd (upd (fun _ => 0) 0 0) 1 0) 2 0))), (a3, .inr (0, [.ref a2, .ref a20, .ref a21, .ref a22, .ref a23, .ref a24, .ref a25, .ref a26, .ref a27, .ref a28, .int 1, .int 0, .int 0, .int 0, .int 0, .int 0, .int 0, .int 0])), (a0, .inr (3, [.ref a2, .ref a3, .ref a4, .ref a5, .ref a6, .ref a7, .ref a1, .int 0, .int 0, .int 0, .int 0, .int 0, .int 0, .int 0, .int 0, .int 0, .int 0, .int 0, .int 0, .int 0])), (a4, .inl (g31, 6, .inl f6))] := hD
  refine W.widen (k := 0) (n := 0) (Nat.le_of_ble_eq_true rfl) (Nat.le_of_ble_eq_true rfl) ?_
  have hK := hK.sub (tys' := [(g16, .int), (g17, .int), (g18, .int), (g19, .int), (g29, .int), (g30, .boolean), (g31, .int), (g46, .byte)]) [0, 1, 2, 3, 4, 5, 6, 7] rfl
  refine lv_iconst (v := 1) hx hb dX3_make_79 (by decide) ?_
  have hP9 := hP.sub (ws' := [(a1, .inr (4, [.ref a32, .ref a33, .ref a34, .ref a35, .ref a36, .ref a37, .ref a38, .ref a39, .ref a40, .ref a41, .ref a42, .ref a43, .ref a44, .ref a45, .int 0, .int 0, .int 0, .int 0, .int 0])), (a32, .inl (g46, 2000, .inl u47)), (a10, .inl (g18, 2003, .inl f2)), (a11, .inl (g19, 2003, .inl f3)), (a20, .inl (g29, 224, .inl f4)), (a21, .inl (g30, 224, .inl f5)), (a9, .inl (g17, 2003, .inl (upd (upd (upd (fun _ => 0) 0 0) 1 0) 2 0))), (a2, .inr (9, [.ref a8, .ref a9, .ref a10, .ref a11, .ref a12, .ref a13, .ref a14, .int 0, .ref a32, .int 0, .int 3, .int 0])), (a8, .inl (g16, 2003, .inl (upd (upd (upd (fun _ => 0) 0 0) 1 0) 2 0))), (a3, .inr (0, [.ref a2, .ref a20, .ref a21, .ref a22, .ref a23, .ref a24, .ref a25, .ref a26, .ref a27, .ref a28, .int 1, .int 0, .int 0, .int 0, .int 0, .int 0, .int 0, .int 0])), (a0, .inr (3, [.ref a2, .ref a3, .ref a4, .ref a5, .ref a6, .ref a7, .ref a1, .int 0, .int 0, .int 0, .int 0, .int 0, .int 0, .int 0, .int 0, .int 0, .int 0, .int 0, .int 0, .int 0])), (a4, .inl (g31, 6, .inl f6))]) [0, 1, 2, 3, 4, 5, 6, 7, 8, 9, 10, 11] rfl
  have hD9 := hD.sub (ws' := [(a1, .inr (4, [.ref a32, .ref a33, .ref a34, .ref a35, .ref a36, .ref a37, .ref a38, .ref a39, .ref a40, .ref a41, .ref a42, .ref a43, .ref a44, .ref a45, .int 0, .int 0, .int 0, .int 0, .int 0])), (a32, .inl (g46, 2000, .inl u47)), (a10, .inl (g18, 2003, .inl f2)), (a11, .inl (g19, 2003, .inl f3)), (a20, .inl (g29, 224, .inl f4)), (a21, .inl (g30, 224, .inl f5)), (a9, .inl (g17, 2003, .inl (upd (upd (upd (fun _ => 0) 0 0) 1 0) 2 0))), (a2, .inr (9, [.ref a8, .ref a9, .ref a10, .ref a11, .ref a12, .ref a13, .ref a14, .int 0, .ref a32, .int 0, .int 3, .int 0])), (a8, .inl (g16, 2003, .inl (upd (upd (upd (fun _ => 0) 0 0) 1 0) 2 0))), (a3, .inr (0, [.ref a2, .ref a20, .ref a21, .ref a22, .ref a23, .ref a24, .ref a25, .ref a26, .ref a27, .ref a28, .int 1, .int 0, .int 0, .int 0, .int 0, .int 0, .int 0, .int 0])), (a0, .inr (3, [.ref a2, .ref a3, .ref a4, .ref a5, .ref a6, .ref a7, .ref a1, .int 0, .int 0, .int 0, .int 0, .int 0, .int 0, .int 0, .int 0, .int 0, .int 0, .int 0, .int 0, .int 0])), (a4, .inl (g31, 6, .inl f6))]) [0, 1, 2, 3, 4, 5, 6, 7, 8, 9, 10, 11] (by decide) rfl
  have hK9 := hK.sub (tys' := [(g16, .int), (g17, .int), (g18, .int), (g19, .int), (g29, .int), (g30, .boolean), (g31, .int), (g46, .byte)]) [0, 1, 2, 3, 4, 5, 6, 7] rfl
  refine W.widen (k := 0) (n := 0) (Nat.le_of_ble_eq_true rfl) (Nat.le_of_ble_eq_true rfl) ?_
  exact W.iret (v := 1) hx hb hr (fun t ht hW => ⟨⟨1, (f2, f3, f4, f5, f6), rfl, rfl, by rw [ht]; exact hP9, va_K.moved hW.alike hK9, hD9⟩, hS.F ht⟩) hS.2.2 dX3_make_80
set_option maxHeartbeats 4000000 in
set_option maxRecDepth 100000 in
theorem c_X3_faultPlace_1 (l : Launch) (dC : Nat → ClassId) (dI : Nat → Nat → Nat) (a0 : Nat) (a1 : Nat) (a2 : Nat) (a3 : Nat) (a4 : Nat) (a5 : Nat) (a6 : Nat) (a7 : Nat) (g8 : ClassId) (u9 : Nat → Int32) (sz : Nat) : Met l yX3_faultPlace (Cond.code yX3_faultPlace cX3_faultPlace 2 (some .int) :: wB) { frames := 0, cells := 0, slots := 0, locals := 0 } (va_Pc [.ref a0, .int 1] (pX (dC, dI) sz [(a0, .inr (3, [.ref a1, .ref a2, .ref a3, .ref a4, .ref a5, .ref a6, .ref a7, .int 0, .int 0, .int 0, .int 0, .int 0, .int 0, .int 0, .int 0, .int 0, .int 0, .int 0, .int 0, .int 0])), (a3, .inl (g8, 6, .inl u9))] [(g8, .int)])) (va_Qi (fun (r : Int32) (z : Int32) => r = z) (fun z t => qX (dC, dI) [(a0, .inr (3, [.ref a1, .ref a2, .ref a3, .ref a4, .ref a5, .ref a6, .ref a7, .int 0, .int 0, .int 0, .int 0, .int 0, .int 0, .int 0, .int 0, .int 0, .int 0, .int 0, .int 0, .int 0])), (a3, .inl (g8, 6, .inl u9))] [(g8, .int)] (va_A [(a0, .inr (3, [.ref a1, .ref a2, .ref a3, .ref a4, .ref a5, .ref a6, .ref a7, .int 0, .int 0, .int 0, .int 0, .int 0, .int 0, .int 0, .int 0, .int 0, .int 0, .int 0, .int 0, .int 0])), (a3, .inl (g8, 6, .inl u9))] sz) t) (va_A [(a0, .inr (3, [.ref a1, .ref a2, .ref a3, .ref a4, .ref a5, .ref a6, .ref a7, .int 0, .int 0, .int 0, .int 0, .int 0, .int 0, .int 0, .int 0, .int 0, .int 0, .int 0, .int 0, .int 0])), (a3, .inl (g8, 6, .inl u9))] sz)) 0 0 (va_A [(a0, .inr (3, [.ref a1, .ref a2, .ref a3, .ref a4, .ref a5, .ref a6, .ref a7, .int 0, .int 0, .int 0, .int 0, .int 0, .int 0, .int 0, .int 0, .int 0, .int 0, .int 0, .int 0, .int 0])), (a3, .inl (g8, 6, .inl u9))] sz) := by
  refine Met.ofW (cc := cX3_faultPlace) (maxL := 2) (ret := (some .int)) (by decide) rfl ?_
  intro p e s m args below meth c s₁ B hml hv
  obtain ⟨rfl, hsz, hP, hK, hD0, hN⟩ := hv
  have hx := B.exec
  have hb := B.bytes
  have hr := B.returns
  have hts : ∀ w ∈ wB, w.before _ s = true := fun w h => atoms_spec (ws := Cond.code yX3_faultPlace cX3_faultPlace 2 (some .int) :: wB) B.pre w (List.mem_cons_of_mem _ h)
  have hown : s.vm.findClass RX3 = some m.cls := findClass_of_methodNamed B.named
  have hlocks := B.notSynchronized
  subst hsz
  have hD := hD0.self (sz := s.heap.size)
  generalize hAe : va_A [(a0, .inr (3, [.ref a1, .ref a2, .ref a3, .ref a4, .ref a5, .ref a6, .ref a7, .int 0, .int 0, .int 0, .int 0, .int 0, .int 0, .int 0, .int 0, .int 0, .int 0, .int 0, .int 0, .int 0])), (a3, .inl (g8, 6, .inl u9))] s.heap.size = A at hD ⊢
  have hA : ∀ q : Nat, s.heap.size ≤ q → A q := fun q h => by rw [← hAe]; exact Or.inr h
  have hS : va_S A s.heap s.heap [] := va_S.rf
  have hP : va_P (dC, dI) vwCl [(a0, .inr (3, [.ref a1, .ref a2, .ref a3, .ref a4, .ref a5, .ref a6, .ref a7, .int 0, .int 0, .int 0, .int 0, .int 0, .int 0, .int 0, .int 0, .int 0, .int 0, .int 0, .int 0, .int 0])), (a3, .inl (g8, 6, .inl u9))] s.heap := hP
  have hl := lv_entry ([.ref a0, .int 1]) (n := 2) (Nat.le_of_ble_eq_true rfl)
  rw [lg_entry_eq]
  generalize (lg_sl ([.ref a0, .int 1]) ++ List.replicate (2 - (lg_sl ([.ref a0, .int 1])).length) Slot.unset).toArray = ls at hl ⊢
  have hl : lv_has ls 2 [(0, .ref a0), (1, .int 1)] := hl
  refine lv_iload_n hx hb dX3_faultPlace_0 rfl (lv_at hl 1 rfl) ?_
  refine lv_iconst (v := 1) hx hb dX3_faultPlace_1 (by decide) ?_
  refine lv_icmp_lt (tgt := 11) hx hb dX3_faultPlace_2 (by decide) (fun c9 => absurd c9 (by decide)) (fun _ => ?_)
  refine lv_iload_n hx hb dX3_faultPlace_5 rfl (lv_at hl 1 rfl) ?_
  refine lv_bipush (v := 6) hx hb dX3_faultPlace_6 (by decide) ?_
  refine lv_icmp_lt (tgt := 15) hx hb dX3_faultPlace_8 (by decide) (fun _ => ?_) (fun c9 => absurd c9 (by decide))
  refine lv_aload_n hx hb dX3_faultPlace_15 rfl (lv_at hl 0 rfl) ?_
  refine va_get (D := (dC, dI)) (ci := 3) (v := .ref a3) (C := RX3) (T := TX3) (N := 20) hx hb hts iX3 hown hK hP 0 rfl rfl 2 (by decide) (hts _ k48) (fun _ h9 => h9) rfl dX3_faultPlace_16 ?_
  refine lv_iload_n hx hb dX3_faultPlace_19 rfl (lv_at hl 1 rfl) ?_
  refine va_iald hx hb hK hP 1 0 rfl rfl (inI (by decide)) dX3_faultPlace_20 ?_
  refine lv_topi (fun x1 ex1 => ?_)
  have hP9 := hP.sub (ws' := [(a0, .inr (3, [.ref a1, .ref a2, .ref a3, .ref a4, .ref a5, .ref a6, .ref a7, .int 0, .int 0, .int 0, .int 0, .int 0, .int 0, .int 0, .int 0, .int 0, .int 0, .int 0, .int 0, .int 0])), (a3, .inl (g8, 6, .inl u9))]) [0, 1] rfl
  have hD9 := hD.sub (ws' := [(a0, .inr (3, [.ref a1, .ref a2, .ref a3, .ref a4, .ref a5, .ref a6, .ref a7, .int 0, .int 0, .int 0, .int 0, .int 0, .int 0, .int 0, .int 0, .int 0, .int 0, .int 0, .int 0, .int 0])), (a3, .inl (g8, 6, .inl u9))]) [0, 1] (by decide) rfl
  have hK9 := hK.sub (tys' := [(g8, .int)]) [0] rfl
  refine W.widen (k := 0) (n := 0) (Nat.le_of_ble_eq_true rfl) (Nat.le_of_ble_eq_true rfl) ?_
  exact W.iret (v := x1) hx hb hr (fun t ht hW => ⟨⟨x1, (x1), rfl, rfl, by rw [ht]; exact hP9, va_K.moved hW.alike hK9, hD9⟩, hS.F ht⟩) hS.2.2 dX3_faultPlace_21
set_option maxHeartbeats 4000000 in
set_option maxRecDepth 100000 in
theorem c_X11_load_1 (l : Launch) (dC : Nat → ClassId) (dI : Nat → Nat → Nat) (a0 : Nat) (p1 : Int32) (a2 : Nat) (a3 : Nat) (a4 : Nat) (a5 : Nat) (a6 : Nat) (a7 : Nat) (a8 : Nat) (a9 : Nat) (a10 : Nat) (g11 : ClassId) (a12 : Nat) (a13 : Nat) (a14 : Nat) (a15 : Nat) (a16 : Nat) (a17 : Nat) (a18 : Nat) (a19 : Nat) (a20 : Nat) (a21 : Nat) (a22 : Nat) (a23 : Nat) (a24 : Nat) (a25 : Nat) (g26 : ClassId) (g27 : ClassId) (g28 : ClassId) (g29 : ClassId) (a30 : Nat) (a31 : Nat) (a32 : Nat) (a33 : Nat) (a34 : Nat) (a35 : Nat) (a36 : Nat) (a37 : Nat) (a38 : Nat) (g39 : ClassId) (g40 : ClassId) (g41 : ClassId) (a42 : Nat) (a43 : Nat) (a44 : Nat) (a45 : Nat) (a46 : Nat) (a47 : Nat) (a48 : Nat) (a49 : Nat) (a50 : Nat) (a51 : Nat) (a52 : Nat) (a53 : Nat) (a54 : Nat) (a55 : Nat) (a56 : Nat) (a57 : Nat) (a58 : Nat) (a59 : Nat) (a60 : Nat) (a61 : Nat) (a62 : Nat) (g63 : ClassId) (sz : Nat) : Met l yX11_load (Cond.code yX11_load cX11_load 3 (some .int) :: wB) { frames := 4, cells := 0, slots := 0, locals := 223 } (va_Pc [.ref a0, .int p1] (pX (dC, dI) sz [(a0, .inr (11, [.ref a2, .ref a3, .ref a4, .ref a5, .ref a6, .ref a7, .ref a8, .ref a9, .ref a10, .int 0, .int 0, .int 0, .int (-1), .int 0, .int (-1)])), (a2, .inl (g11, 65000, .inl (fun _ => 0))), (a4, .inr (3, [.ref a12, .ref a13, .ref a14, .ref a15, .ref a16, .ref a17, .null, .int 0, .int 0, .int 0, .int 0, .int 0, .int 0, .int 0, .int 0, .int 0, .int 0, .int 0, .int 0, .int 0])), (a12, .inr (9, [.ref a18, .ref a19, .ref a20, .ref a21, .ref a22, .ref a23, .ref a24, .int 0, .ref a25, .int 0, .int 0, .int 0])), (a18, .inl (g26, 2003, .inl (fun _ => 0))), (a19, .inl (g27, 2003, .inl (fun _ => 0))), (a20, .inl (g28, 2003, .inl (fun _ => 0))), (a21, .inl (g29, 2003, .inl (fun _ => 0))), (a13, .inr (0, [.ref a12, .ref a30, .ref a31, .ref a32, .ref a33, .ref a34, .ref a35, .ref a36, .ref a37, .ref a38, .int 0, .int 0, .int 0, .int 0, .int 0, .int 0, .int 0, .int 0])), (a30, .inl (g39, 224, .inl (fun _ => 0))), (a31, .inl (g40, 224, .inl (fun _ => 0))), (a14, .inl (g41, 6, .inl (fun _ => 0))), (a10, .inr (2, [.ref a42, .ref a43, .ref a44, .ref a45, .ref a46, .ref a47, .ref a48, .int 0, .int 0, .int 0, .int 0, .int 0, .int 0, .int 0, .int 0, .long 0, .int (-1), .int 0, .int 0, .int 0])), (a42, .inr (4, [.ref a49, .ref a50, .ref a51, .ref a52, .ref a53, .ref a54, .ref a55, .ref a56, .ref a57, .ref a58, .ref a59, .ref a60, .ref a61, .ref a62, .int 0, .int 0, .int 0, .int 0, .int 0])), (a49, .inl (g63, 2000, .inl (fun _ => 0)))] [(g11, .byte), (g26, .int), (g27, .int), (g28, .int), (g29, .int), (g39, .int), (g40, .boolean), (g41, .int), (g63, .byte)])) (va_Qi (fun (r : Int32) (z : Unit) => r = (-1)) (fun z t => qX (dC, dI) [] [] (va_A [(a0, .inr (11, [.ref a2, .ref a3, .ref a4, .ref a5, .ref a6, .ref a7, .ref a8, .ref a9, .ref a10, .int 0, .int 0, .int 0, .int (-1), .int 0, .int (-1)])), (a2, .inl (g11, 65000, .inl (fun _ => 0))), (a4, .inr (3, [.ref a12, .ref a13, .ref a14, .ref a15, .ref a16, .ref a17, .null, .int 0, .int 0, .int 0, .int 0, .int 0, .int 0, .int 0, .int 0, .int 0, .int 0, .int 0, .int 0, .int 0])), (a12, .inr (9, [.ref a18, .ref a19, .ref a20, .ref a21, .ref a22, .ref a23, .ref a24, .int 0, .ref a25, .int 0, .int 0, .int 0])), (a18, .inl (g26, 2003, .inl (fun _ => 0))), (a19, .inl (g27, 2003, .inl (fun _ => 0))), (a20, .inl (g28, 2003, .inl (fun _ => 0))), (a21, .inl (g29, 2003, .inl (fun _ => 0))), (a13, .inr (0, [.ref a12, .ref a30, .ref a31, .ref a32, .ref a33, .ref a34, .ref a35, .ref a36, .ref a37, .ref a38, .int 0, .int 0, .int 0, .int 0, .int 0, .int 0, .int 0, .int 0])), (a30, .inl (g39, 224, .inl (fun _ => 0))), (a31, .inl (g40, 224, .inl (fun _ => 0))), (a14, .inl (g41, 6, .inl (fun _ => 0))), (a10, .inr (2, [.ref a42, .ref a43, .ref a44, .ref a45, .ref a46, .ref a47, .ref a48, .int 0, .int 0, .int 0, .int 0, .int 0, .int 0, .int 0, .int 0, .long 0, .int (-1), .int 0, .int 0, .int 0])), (a42, .inr (4, [.ref a49, .ref a50, .ref a51, .ref a52, .ref a53, .ref a54, .ref a55, .ref a56, .ref a57, .ref a58, .ref a59, .ref a60, .ref a61, .ref a62, .int 0, .int 0, .int 0, .int 0, .int 0])), (a49, .inl (g63, 2000, .inl (fun _ => 0)))] sz) t) (va_A [(a0, .inr (11, [.ref a2, .ref a3, .ref a4, .ref a5, .ref a6, .ref a7, .ref a8, .ref a9, .ref a10, .int 0, .int 0, .int 0, .int (-1), .int 0, .int (-1)])), (a2, .inl (g11, 65000, .inl (fun _ => 0))), (a4, .inr (3, [.ref a12, .ref a13, .ref a14, .ref a15, .ref a16, .ref a17, .null, .int 0, .int 0, .int 0, .int 0, .int 0, .int 0, .int 0, .int 0, .int 0, .int 0, .int 0, .int 0, .int 0])), (a12, .inr (9, [.ref a18, .ref a19, .ref a20, .ref a21, .ref a22, .ref a23, .ref a24, .int 0, .ref a25, .int 0, .int 0, .int 0])), (a18, .inl (g26, 2003, .inl (fun _ => 0))), (a19, .inl (g27, 2003, .inl (fun _ => 0))), (a20, .inl (g28, 2003, .inl (fun _ => 0))), (a21, .inl (g29, 2003, .inl (fun _ => 0))), (a13, .inr (0, [.ref a12, .ref a30, .ref a31, .ref a32, .ref a33, .ref a34, .ref a35, .ref a36, .ref a37, .ref a38, .int 0, .int 0, .int 0, .int 0, .int 0, .int 0, .int 0, .int 0])), (a30, .inl (g39, 224, .inl (fun _ => 0))), (a31, .inl (g40, 224, .inl (fun _ => 0))), (a14, .inl (g41, 6, .inl (fun _ => 0))), (a10, .inr (2, [.ref a42, .ref a43, .ref a44, .ref a45, .ref a46, .ref a47, .ref a48, .int 0, .int 0, .int 0, .int 0, .int 0, .int 0, .int 0, .int 0, .long 0, .int (-1), .int 0, .int 0, .int 0])), (a42, .inr (4, [.ref a49, .ref a50, .ref a51, .ref a52, .ref a53, .ref a54, .ref a55, .ref a56, .ref a57, .ref a58, .ref a59, .ref a60, .ref a61, .ref a62, .int 0, .int 0, .int 0, .int 0, .int 0])), (a49, .inl (g63, 2000, .inl (fun _ => 0)))] sz)) 0 0 (va_A [(a0, .inr (11, [.ref a2, .ref a3, .ref a4, .ref a5, .ref a6, .ref a7, .ref a8, .ref a9, .ref a10, .int 0, .int 0, .int 0, .int (-1), .int 0, .int (-1)])), (a2, .inl (g11, 65000, .inl (fun _ => 0))), (a4, .inr (3, [.ref a12, .ref a13, .ref a14, .ref a15, .ref a16, .ref a17, .null, .int 0, .int 0, .int 0, .int 0, .int 0, .int 0, .int 0, .int 0, .int 0, .int 0, .int 0, .int 0, .int 0])), (a12, .inr (9, [.ref a18, .ref a19, .ref a20, .ref a21, .ref a22, .ref a23, .ref a24, .int 0, .ref a25, .int 0, .int 0, .int 0])), (a18, .inl (g26, 2003, .inl (fun _ => 0))), (a19, .inl (g27, 2003, .inl (fun _ => 0))), (a20, .inl (g28, 2003, .inl (fun _ => 0))), (a21, .inl (g29, 2003, .inl (fun _ => 0))), (a13, .inr (0, [.ref a12, .ref a30, .ref a31, .ref a32, .ref a33, .ref a34, .ref a35, .ref a36, .ref a37, .ref a38, .int 0, .int 0, .int 0, .int 0, .int 0, .int 0, .int 0, .int 0])), (a30, .inl (g39, 224, .inl (fun _ => 0))), (a31, .inl (g40, 224, .inl (fun _ => 0))), (a14, .inl (g41, 6, .inl (fun _ => 0))), (a10, .inr (2, [.ref a42, .ref a43, .ref a44, .ref a45, .ref a46, .ref a47, .ref a48, .int 0, .int 0, .int 0, .int 0, .int 0, .int 0, .int 0, .int 0, .long 0, .int (-1), .int 0, .int 0, .int 0])), (a42, .inr (4, [.ref a49, .ref a50, .ref a51, .ref a52, .ref a53, .ref a54, .ref a55, .ref a56, .ref a57, .ref a58, .ref a59, .ref a60, .ref a61, .ref a62, .int 0, .int 0, .int 0, .int 0, .int 0])), (a49, .inl (g63, 2000, .inl (fun _ => 0)))] sz) := by
  refine Met.ofW (cc := cX11_load) (maxL := 3) (ret := (some .int)) (by decide) rfl ?_
  intro p e s m args below meth c s₁ B hml hv
  obtain ⟨rfl, hsz, hP, hK, hD0, hN⟩ := hv
  have hx := B.exec
  have hb := B.bytes
  have hr := B.returns
  have hts : ∀ w ∈ wB, w.before _ s = true := fun w h => atoms_spec (ws := Cond.code yX11_load cX11_load 3 (some .int) :: wB) B.pre w (List.mem_cons_of_mem _ h)
  have hown : s.vm.findClass RX11 = some m.cls := findClass_of_methodNamed B.named
  have hlocks := B.notSynchronized
  subst hsz
  have hD := hD0.self (sz := s.heap.size)
  generalize hAe : va_A [(a0, .inr (11, [.ref a2, .ref a3, .ref a4, .ref a5, .ref a6, .ref a7, .ref a8, .ref a9, .ref a10, .int 0, .int 0, .int 0, .int (-1), .int 0, .int (-1)])), (a2, .inl (g11, 65000, .inl (fun _ => 0))), (a4, .inr (3, [.ref a12, .ref a13, .ref a14, .ref a15, .ref a16, .ref a17, .null, .int 0, .int 0, .int 0, .int 0, .int 0, .int 0, .int 0, .int 0, .int 0, .int 0, .int 0, .int 0, .int 0])), (a12, .inr (9, [.ref a18, .ref a19, .ref a20, .ref a21, .ref a22, .ref a23, .ref a24, .int 0, .ref a25, .int 0, .int 0, .int 0])), (a18, .inl (g26, 2003, .inl (fun _ => 0))), (a19, .inl (g27, 2003, .inl (fun _ => 0))), (a20, .inl (g28, 2003, .inl (fun _ => 0))), (a21, .inl (g29, 2003, .inl (fun _ => 0))), (a13, .inr (0, [.ref a12, .ref a30, .ref a31, .ref a32, .ref a33, .ref a34, .ref a35, .ref a36, .ref a37, .ref a38, .int 0, .int 0, .int 0, .int 0, .int 0, .int 0, .int 0, .int 0])), (a30, .inl (g39, 224, .inl (fun _ => 0))), (a31, .inl (g40, 224, .inl (fun _ => 0))), (a14, .inl (g41, 6, .inl (fun _ => 0))), (a10, .inr (2, [.ref a42, .ref a43, .ref a44, .ref a45, .ref a46, .ref a47, .ref a48, .int 0, .int 0, .int 0, .int 0, .int 0, .int 0, .int 0, .int 0, .long 0, .int (-1), .int 0, .int 0, .int 0])), (a42, .inr (4, [.ref a49, .ref a50, .ref a51, .ref a52, .ref a53, .ref a54, .ref a55, .ref a56, .ref a57, .ref a58, .ref a59, .ref a60, .ref a61, .ref a62, .int 0, .int 0, .int 0, .int 0, .int 0])), (a49, .inl (g63, 2000, .inl (fun _ => 0)))] s.heap.size = A at hD ⊢
  have hA : ∀ q : Nat, s.heap.size ≤ q → A q := fun q h => by rw [← hAe]; exact Or.inr h
  have hS : va_S A s.heap s.heap [] := va_S.rf
  have hP : va_P (dC, dI) vwCl [(a0, .inr (11, [.ref a2, .ref a3, .ref a4, .ref a5, .ref a6, .ref a7, .ref a8, .ref a9, .ref a10, .int 0, .int 0, .int 0, .int (-1), .int 0, .int (-1)])), (a2, .inl (g11, 65000, .inl (fun _ => 0))), (a4, .inr (3, [.ref a12, .ref a13, .ref a14, .ref a15, .ref a16, .ref a17, .null, .int 0, .int 0, .int 0, .int 0, .int 0, .int 0, .int 0, .int 0, .int 0, .int 0, .int 0, .int 0, .int 0])), (a12, .inr (9, [.ref a18, .ref a19, .ref a20, .ref a21, .ref a22, .ref a23, .ref a24, .int 0, .ref a25, .int 0, .int 0, .int 0])), (a18, .inl (g26, 2003, .inl (fun _ => 0))), (a19, .inl (g27, 2003, .inl (fun _ => 0))), (a20, .inl (g28, 2003, .inl (fun _ => 0))), (a21, .inl (g29, 2003, .inl (fun _ => 0))), (a13, .inr (0, [.ref a12, .ref a30, .ref a31, .ref a32, .ref a33, .ref a34, .ref a35, .ref a36, .ref a37, .ref a38, .int 0, .int 0, .int 0, .int 0, .int 0, .int 0, .int 0, .int 0])), (a30, .inl (g39, 224, .inl (fun _ => 0))), (a31, .inl (g40, 224, .inl (fun _ => 0))), (a14, .inl (g41, 6, .inl (fun _ => 0))), (a10, .inr (2, [.ref a42, .ref a43, .ref a44, .ref a45, .ref a46, .ref a47, .ref a48, .int 0, .int 0, .int 0, .int 0, .int 0, .int 0, .int 0, .int 0, .long 0, .int (-1), .int 0, .int 0, .int 0])), (a42, .inr (4, [.ref a49, .ref a50, .ref a51, .ref a52, .ref a53, .ref a54, .ref a55, .ref a56, .ref a57, .ref a58, .ref a59, .ref a60, .ref a61, .ref a62, .int 0, .int 0, .int 0, .int 0, .int 0])), (a49, .inl (g63, 2000, .inl (fun _ => 0)))] s.heap := hP
  have hl := lv_entry ([.ref a0, .int p1]) (n := 3) (Nat.le_of_ble_eq_true rfl)
  rw [lg_entry_eq]
  generalize (lg_sl ([.ref a0, .int p1]) ++ List.replicate (3 - (lg_sl ([.ref a0, .int p1])).length) Slot.unset).toArray = ls at hl ⊢
  have hl : lv_has ls 3 [(0, .ref a0), (1, .int p1)] := hl
  refine lv_aload_n hx hb dX11_load_0 rfl (lv_at hl 0 rfl) ?_
  refine va_get (D := (dC, dI)) (ci := 11) (v := .int 0) (C := RX11) (T := TX11) (N := 15) hx hb hts iX11 hown hK hP 0 rfl rfl 9 (by decide) (hts _ k180) (fun _ h9 => h9) rfl dX11_load_1 ?_
  refine lv_istore_n (lv' := [(2, .int 0), (0, .ref a0), (1, .int p1)]) hx hb dX11_load_4 rfl hl (by decide) rfl (fun ls hl => ?_)
  refine lv_aload_n hx hb dX11_load_5 rfl (lv_at hl 1 rfl) ?_
  refine lv_iconst (v := 0) hx hb dX11_load_6 (by decide) ?_
  refine va_put (D := (dC, dI)) (ci := 11) (v := .int 0) (ty := .int) (C := RX11) (T := TX11) (N := 15) hx hb hts iX11 tyX11 tyX11_ok nmX11 hown hK hP hD hS 0 rfl rfl 9 (by decide) (hts _ k180) (fun _ h9 => h9) rfl (by decide +kernel) rfl rfl (Nat.le_of_ble_eq_true rfl) dX11_load_7 (fun H locs hP hD hS => ?_)
  have hP : va_P (dC, dI) vwCl [(a0, .inr (11, [.ref a2, .ref a3, .ref a4, .ref a5, .ref a6, .ref a7, .ref a8, .ref a9, .ref a10, .int 0, .int 0, .int 0, .int (-1), .int 0, .int (-1)])), (a2, .inl (g11, 65000, .inl (fun _ => 0))), (a4, .inr (3, [.ref a12, .ref a13, .ref a14, .ref a15, .ref a16, .ref a17, .null, .int 0, .int 0, .int 0, .int 0, .int 0, .int 0, .int 0, .int 0, .int 0, .int 0, .int 0, .int 0, .int 0])), (a12, .inr (9, [.ref a18, .ref a19, .ref a20, .ref a21, .ref a22, .ref a23, .ref a24, .int 0, .ref a25, .int 0, .int 0, .int 0])), (a18, .inl (g26, 2003, .inl (fun _ => 0))), (a19, .inl (g27, 2003, .inl (fun _ => 0))), (a20, .inl (g28, 2003, .inl (fun _ => 0))), (a21, .inl (g29, 2003, .inl (fun _ => 0))), (a13, .inr (0, [.ref a12, .ref a30, .ref a31, .ref a32, .ref a33, .ref a34, .ref a35, .ref a36, .ref a37, .ref a38, .int 0, .int 0, .int 0, .int 0, .int 0, .int 0, .int 0, .int 0])), (a30, .inl (g39, 224, .inl (fun _ => 0))), (a31, .inl (g40, 224, .inl (fun _ => 0))), (a14, .inl (g41, 6, .inl (fun _ => 0))), (a10, .inr (2, [.ref a42, .ref a43, .ref a44, .ref a45, .ref a46, .ref a47, .ref a48, .int 0, .int 0, .int 0, .int 0, .int 0, .int 0, .int 0, .int 0, .long 0, .int (-1), .int 0, .int 0, .int 0])), (a42, .inr (4, [.ref a49, .ref a50, .ref a51, .ref a52, .ref a53, .ref a54, .ref a55, .ref a56, .ref a57, .ref a58, .ref a59, .ref a60, .ref a61, .ref a62, .int 0, .int 0, .int 0, .int 0, .int 0])), (a49, .inl (g63, 2000, .inl (fun _ => 0)))] H := hP
  have hD : va_D A [(a0, .inr (11, [.ref a2, .ref a3, .ref a4, .ref a5, .ref a6, .ref a7, .ref a8, .ref a9, .ref a10, .int 0, .int 0, .int 0, .int (-1), .int 0, .int (-1)])), (a2, .inl (g11, 65000, .inl (fun _ => 0))), (a4, .inr (3, [.ref a12, .ref a13, .ref a14, .ref a15, .ref a16, .ref a17, .null, .int 0, .int 0, .int 0, .int 0, .int 0, .int 0, .int 0, .int 0, .int 0, .int 0, .int 0, .int 0, .int 0])), (a12, .inr (9, [.ref a18, .ref a19, .ref a20, .ref a21, .ref a22, .ref a23, .ref a24, .int 0, .ref a25, .int 0, .int 0, .int 0])), (a18, .inl (g26, 2003, .inl (fun _ => 0))), (a19, .inl (g27, 2003, .inl (fun _ => 0))), (a20, .inl (g28, 2003, .inl (fun _ => 0))), (a21, .inl (g29, 2003, .inl (fun _ => 0))), (a13, .inr (0, [.ref a12, .ref a30, .ref a31, .ref a32, .ref a33, .ref a34, .ref a35, .ref a36, .ref a37, .ref a38, .int 0, .int 0, .int 0, .int 0, .int 0, .int 0, .int 0, .int 0])), (a30, .inl (g39, 224, .inl (fun _ => 0))), (a31, .inl (g40, 224, .inl (fun _ => 0))), (a14, .inl (g41, 6, .inl (fun _ => 0))), (a10, .inr (2, [.ref a42, .ref a43, .ref a44, .ref a45, .ref a46, .ref a47, .ref a48, .int 0, .int 0, .int 0, .int 0, .int 0, .int 0, .int 0, .int 0, .long 0, .int (-1), .int 0, .int 0, .int 0])), (a42, .inr (4, [.ref a49, .ref a50, .ref a51, .ref a52, .ref a53, .ref a54, .ref a55, .ref a56, .ref a57, .ref a58, .ref a59, .ref a60, .ref a61, .ref a62, .int 0, .int 0, .int 0, .int 0, .int 0])), (a49, .inl (g63, 2000, .inl (fun _ => 0)))] := hD
  refine lv_iload_n hx hb dX11_load_10 rfl (lv_at hl 2 rfl) ?_
  refine lv_iconst (v := 1) hx hb dX11_load_11 (by decide) ?_
  refine lv_icmp_lt (tgt := 21) hx hb dX11_load_12 (by decide) (fun h1 => ?_) (fun h1 => ?_)
  · refine lv_iconst (v := (-1)) hx hb dX11_load_21 (by decide) ?_
    have hP9 := hP.sub (ws' := []) [] rfl
    have hD9 := hD.sub (ws' := []) [] (by decide) rfl
    have hK9 := hK.sub (tys' := []) [] rfl
    refine W.widen (k := 0) (n := 0) (Nat.le_of_ble_eq_true rfl) (Nat.le_of_ble_eq_true rfl) ?_
    exact W.iret (v := (-1)) hx hb hr (fun t ht hW => ⟨⟨(-1), (), rfl, rfl, by rw [ht]; exact hP9, va_K.moved hW.alike hK9, hD9⟩, hS.F ht⟩) hS.2.2 dX11_load_22
  · refine lv_iload_n hx hb dX11_load_15 rfl (lv_at hl 2 rfl) ?_
    refine lv_bipush (v := 50) hx hb dX11_load_16 (by decide) ?_
    refine lv_icmp_le (tgt := 23) hx hb dX11_load_18 (by decide) (fun h2 => ?_) (fun h2 => ?_)
    · refine lv_aload_n hx hb dX11_load_23 rfl (lv_at hl 1 rfl) ?_
      refine va_get (D := (dC, dI)) (ci := 11) (v := .ref a10) (C := RX11) (T := TX11) (N := 15) hx hb hts iX11 hown hK hP 0 rfl rfl 8 (by decide) (hts _ k177) (fun _ h9 => h9) rfl dX11_load_24 ?_
      refine va_get (D := (dC, dI)) (ci := 2) (v := .ref a42) (C := RX2) (T := TX2) (N := 20) hx hb hts iX2 hown hK hP 12 rfl rfl 0 (by decide) (hts _ k186) (fun _ h9 => h9) rfl dX11_load_27 ?_
      refine lv_aload_n hx hb dX11_load_30 rfl (lv_at hl 1 rfl) ?_
      refine va_get (D := (dC, dI)) (ci := 11) (v := .ref a2) (C := RX11) (T := TX11) (N := 15) hx hb hts iX11 hown hK hP 0 rfl rfl 0 (by decide) (hts _ k6) (fun _ h9 => h9) rfl dX11_load_31 ?_
      refine lv_iconst (v := 0) hx hb dX11_load_34 (by decide) ?_
      refine lv_iload_n hx hb dX11_load_35 rfl (lv_at hl 0 rfl) ?_
      refine xV_v (n := 3) (As := [.ref a2, .int 0, .int 0]) (rest := []) (wc := [(a2, .inl (g11, 65000, .inl (fun _ => 0))), (a42, .inr (4, [.ref a49, .ref a50, .ref a51, .ref a52, .ref a53, .ref a54, .ref a55, .ref a56, .ref a57, .ref a58, .ref a59, .ref a60, .ref a61, .ref a62, .int 0, .int 0, .int 0, .int 0, .int 0])), (a49, .inl (g63, 2000, .inl (fun _ => 0)))]) (wr := [(a0, .inr (11, [.ref a2, .ref a3, .ref a4, .ref a5, .ref a6, .ref a7, .ref a8, .ref a9, .ref a10, .int 0, .int 0, .int 0, .int (-1), .int 0, .int (-1)])), (a4, .inr (3, [.ref a12, .ref a13, .ref a14, .ref a15, .ref a16, .ref a17, .null, .int 0, .int 0, .int 0, .int 0, .int 0, .int 0, .int 0, .int 0, .int 0, .int 0, .int 0, .int 0, .int 0])), (a12, .inr (9, [.ref a18, .ref a19, .ref a20, .ref a21, .ref a22, .ref a23, .ref a24, .int 0, .ref a25, .int 0, .int 0, .int 0])), (a18, .inl (g26, 2003, .inl (fun _ => 0))), (a19, .inl (g27, 2003, .inl (fun _ => 0))), (a20, .inl (g28, 2003, .inl (fun _ => 0))), (a21, .inl (g29, 2003, .inl (fun _ => 0))), (a13, .inr (0, [.ref a12, .ref a30, .ref a31, .ref a32, .ref a33, .ref a34, .ref a35, .ref a36, .ref a37, .ref a38, .int 0, .int 0, .int 0, .int 0, .int 0, .int 0, .int 0, .int 0])), (a30, .inl (g39, 224, .inl (fun _ => 0))), (a31, .inl (g40, 224, .inl (fun _ => 0))), (a14, .inl (g41, 6, .inl (fun _ => 0))), (a10, .inr (2, [.ref a42, .ref a43, .ref a44, .ref a45, .ref a46, .ref a47, .ref a48, .int 0, .int 0, .int 0, .int 0, .int 0, .int 0, .int 0, .int 0, .long 0, .int (-1), .int 0, .int 0, .int 0]))]) (tc := [(g11, .byte), (g63, .byte)]) ⟨hx, hb, hml, hown, hts⟩ (c_X4_setText_1 l dC dI a42 a2 g11 a49 a50 a51 a52 a53 a54 a55 a56 a57 a58 a59 a60 a61 a62 g63 H.size) ⟨k196, k197, k198, k103, k199⟩ (by decide +kernel) rfl ⟨Nat.le_of_ble_eq_true rfl, Nat.le_of_ble_eq_true rfl⟩ ⟨Nat.le_of_ble_eq_true rfl, Nat.le_of_ble_eq_true rfl⟩ hK hP hD hS hA hN [1, 13, 14] [0, 2, 3, 4, 5, 6, 7, 8, 9, 10, 11, 12] [0, 8] rfl rfl (by decide) (by decide) rfl 1 rfl rfl hl.1 rfl (Nat.le_of_ble_eq_true rfl) dX11_load_36 (fun f3 H locs hw hK hP hD hS => ?_)
      have hK : va_K (dC, dI) vwCl [(g11, .byte), (g26, .int), (g27, .int), (g28, .int), (g29, .int), (g39, .int), (g40, .boolean), (g41, .int), (g63, .byte), (g11, .byte), (g63, .byte)] s := hK
      have hP : va_P (dC, dI) vwCl [(a0, .inr (11, [.ref a2, .ref a3, .ref a4, .ref a5, .ref a6, .ref a7, .ref a8, .ref a9, .ref a10, .int 0, .int 0, .int 0, .int (-1), .int 0, .int (-1)])), (a4, .inr (3, [.ref a12, .ref a13, .ref a14, .ref a15, .ref a16, .ref a17, .null, .int 0, .int 0, .int 0, .int 0, .int 0, .int 0, .int 0, .int 0, .int 0, .int 0, .int 0, .int 0, .int 0])), (a12, .inr (9, [.ref a18, .ref a19, .ref a20, .ref a21, .ref a22, .ref a23, .ref a24, .int 0, .ref a25, .int 0, .int 0, .int 0])), (a18, .inl (g26, 2003, .inl (fun _ => 0))), (a19, .inl (g27, 2003, .inl (fun _ => 0))), (a20, .inl (g28, 2003, .inl (fun _ => 0))), (a21, .inl (g29, 2003, .inl (fun _ => 0))), (a13, .inr (0, [.ref a12, .ref a30, .ref a31, .ref a32, .ref a33, .ref a34, .ref a35, .ref a36, .ref a37, .ref a38, .int 0, .int 0, .int 0, .int 0, .int 0, .int 0, .int 0, .int 0])), (a30, .inl (g39, 224, .inl (fun _ => 0))), (a31, .inl (g40, 224, .inl (fun _ => 0))), (a14, .inl (g41, 6, .inl (fun _ => 0))), (a10, .inr (2, [.ref a42, .ref a43, .ref a44, .ref a45, .ref a46, .ref a47, .ref a48, .int 0, .int 0, .int 0, .int 0, .int 0, .int 0, .int 0, .int 0, .long 0, .int (-1), .int 0, .int 0, .int 0])), (a2, .inl (g11, 65000, .inl (fun _ => 0))), (a42, .inr (4, [.ref a49, .ref a50, .ref a51, .ref a52, .ref a53, .ref a54, .ref a55, .ref a56, .ref a57, .ref a58, .ref a59, .ref a60, .ref a61, .ref a62, .int 0, .int 0, .int 0, .int 0, .int 0])), (a49, .inl (g63, 2000, .inl f3))] H := hP
      have hD : va_D A [(a0, .inr (11, [.ref a2, .ref a3, .ref a4, .ref a5, .ref a6, .ref a7, .ref a8, .ref a9, .ref a10, .int 0, .int 0, .int 0, .int (-1), .int 0, .int (-1)])), (a4, .inr (3, [.ref a12, .ref a13, .ref a14, .ref a15, .ref a16, .ref a17, .null, .int 0, .int 0, .int 0, .int 0, .int 0, .int 0, .int 0, .int 0, .int 0, .int 0, .int 0, .int 0, .int 0])), (a12, .inr (9, [.ref a18, .ref a19, .ref a20, .ref a21, .ref a22, .ref a23, .ref a24, .int 0, .ref a25, .int 0, .int 0, .int 0])), (a18, .inl (g26, 2003, .inl (fun _ => 0))), (a19, .inl (g27, 2003, .inl (fun _ => 0))), (a20, .inl (g28, 2003, .inl (fun _ => 0))), (a21, .inl (g29, 2003, .inl (fun _ => 0))), (a13, .inr (0, [.ref a12, .ref a30, .ref a31, .ref a32, .ref a33, .ref a34, .ref a35, .ref a36, .ref a37, .ref a38, .int 0, .int 0, .int 0, .int 0, .int 0, .int 0, .int 0, .int 0])), (a30, .inl (g39, 224, .inl (fun _ => 0))), (a31, .inl (g40, 224, .inl (fun _ => 0))), (a14, .inl (g41, 6, .inl (fun _ => 0))), (a10, .inr (2, [.ref a42, .ref a43, .ref a44, .ref a45, .ref a46, .ref a47, .ref a48, .int 0, .int 0, .int 0, .int 0, .int 0, .int 0, .int 0, .int 0, .long 0, .int (-1), .int 0, .int 0, .int 0])), (a2, .inl (g11, 65000, .inl (fun _ => 0))), (a42, .inr (4, [.ref a49, .ref a50, .ref a51, .ref a52, .ref a53, .ref a54, .ref a55, .ref a56, .ref a57, .ref a58, .ref a59, .ref a60, .ref a61, .ref a62, .int 0, .int 0, .int 0, .int 0, .int 0])), (a49, .inl (g63, 2000, .inl f3))] := hD
      refine W.widen (k := 0) (n := 0) (Nat.le_of_ble_eq_true rfl) (Nat.le_of_ble_eq_true rfl) ?_
      have hK := hK.sub (tys' := [(g11, .byte), (g26, .int), (g27, .int), (g28, .int), (g29, .int), (g39, .int), (g40, .boolean), (g41, .int), (g63, .byte)]) [0, 1, 2, 3, 4, 5, 6, 7, 8] rfl
      refine lv_aload_n hx hb dX11_load_39 rfl (lv_at hl 1 rfl) ?_
      refine lv_aload_n hx hb dX11_load_40 rfl (lv_at hl 1 rfl) ?_
      refine va_get (D := (dC, dI)) (ci := 11) (v := .ref a4) (C := RX11) (T := TX11) (N := 15) hx hb hts iX11 hown hK hP 0 rfl rfl 2 (by decide) (hts _ k54) (fun _ h9 => h9) rfl dX11_load_41 ?_
      refine lv_aload_n hx hb dX11_load_44 rfl (lv_at hl 1 rfl) ?_
      refine va_get (D := (dC, dI)) (ci := 11) (v := .ref a10) (C := RX11) (T := TX11) (N := 15) hx hb hts iX11 hown hK hP 0 rfl rfl 8 (by decide) (hts _ k177) (fun _ h9 => h9) rfl dX11_load_45 ?_
      refine va_get (D := (dC, dI)) (ci := 2) (v := .ref a42) (C := RX2) (T := TX2) (N := 20) hx hb hts iX2 hown hK hP 11 rfl rfl 0 (by decide) (hts _ k186) (fun _ h9 => h9) rfl dX11_load_48 ?_
      refine xV_i (n := 1) (As := [.ref a42]) (rest := [.ref a0]) (wc := [(a4, .inr (3, [.ref a12, .ref a13, .ref a14, .ref a15, .ref a16, .ref a17, .null, .int 0, .int 0, .int 0, .int 0, .int 0, .int 0, .int 0, .int 0, .int 0, .int 0, .int 0, .int 0, .int 0])), (a12, .inr (9, [.ref a18, .ref a19, .ref a20, .ref a21, .ref a22, .ref a23, .ref a24, .int 0, .ref a25, .int 0, .int 0, .int 0])), (a18, .inl (g26, 2003, .inl (fun _ => 0))), (a19, .inl (g27, 2003, .inl (fun _ => 0))), (a20, .inl (g28, 2003, .inl (fun _ => 0))), (a21, .inl (g29, 2003, .inl (fun _ => 0))), (a13, .inr (0, [.ref a12, .ref a30, .ref a31, .ref a32, .ref a33, .ref a34, .ref a35, .ref a36, .ref a37, .ref a38, .int 0, .int 0, .int 0, .int 0, .int 0, .int 0, .int 0, .int 0])), (a30, .inl (g39, 224, .inl (fun _ => 0))), (a31, .inl (g40, 224, .inl (fun _ => 0))), (a14, .inl (g41, 6, .inl (fun _ => 0))), (a42, .inr (4, [.ref a49, .ref a50, .ref a51, .ref a52, .ref a53, .ref a54, .ref a55, .ref a56, .ref a57, .ref a58, .ref a59, .ref a60, .ref a61, .ref a62, .int 0, .int 0, .int 0, .int 0, .int 0])), (a49, .inl (g63, 2000, .inl f3))]) (wr := [(a0, .inr (11, [.ref a2, .ref a3, .ref a4, .ref a5, .ref a6, .ref a7, .ref a8, .ref a9, .ref a10, .int 0, .int 0, .int 0, .int (-1), .int 0, .int (-1)])), (a10, .inr (2, [.ref a42, .ref a43, .ref a44, .ref a45, .ref a46, .ref a47, .ref a48, .int 0, .int 0, .int 0, .int 0, .int 0, .int 0, .int 0, .int 0, .long 0, .int (-1), .int 0, .int 0, .int 0])), (a2, .inl (g11, 65000, .inl (fun _ => 0)))]) (tc := [(g26, .int), (g27, .int), (g28, .int), (g29, .int), (g39, .int), (g40, .boolean), (g41, .int), (g63, .byte)]) ⟨hx, hb, hml, hown, hts⟩ (c_X3_make_1 l dC dI a4 a42 a12 a13 a14 a15 a16 a17 a18 a19 a20 a21 a22 a23 a24 a25 g26 g27 g28 g29 a30 a31 a32 a33 a34 a35 a36 a37 a38 g39 g40 g41 a49 a50 a51 a52 a53 a54 a55 a56 a57 a58 a59 a60 a61 a62 g63 f3 H.size) ⟨k257, k258, k259, k10, k260⟩ (by decide +kernel) rfl ⟨Nat.le_of_ble_eq_true rfl, Nat.le_of_ble_eq_true rfl⟩ ⟨Nat.le_of_ble_eq_true rfl, Nat.le_of_ble_eq_true rfl⟩ hK hP hD hS hA hN [1, 2, 3, 4, 5, 6, 7, 8, 9, 10, 13, 14] [0, 11, 12] [1, 2, 3, 4, 5, 6, 7, 8] rfl rfl (by decide) (by decide) rfl 0 rfl rfl hl.1 rfl (Nat.le_of_ble_eq_true rfl) dX11_load_51 (fun r9 z H locs hw hK hP hD hS => ?_)
      obtain ⟨f4, f5, f6, f7, f8⟩ := z
      have hK : va_K (dC, dI) vwCl [(g11, .byte), (g26, .int), (g27, .int), (g28, .int), (g29, .int), (g39, .int), (g40, .boolean), (g41, .int), (g63, .byte), (g26, .int), (g27, .int), (g28, .int), (g29, .int), (g39, .int), (g40, .boolean), (g41, .int), (g63, .byte)] s := hK
      have hP : va_P (dC, dI) vwCl [(a0, .inr (11, [.ref a2, .ref a3, .ref a4, .ref a5, .ref a6, .ref a7, .ref a8, .ref a9, .ref a10, .int 0, .int 0, .int 0, .int (-1), .int 0, .int (-1)])), (a10, .inr (2, [.ref a42, .ref a43, .ref a44, .ref a45, .ref a46, .ref a47, .ref a48, .int 0, .int 0, .int 0, .int 0, .int 0, .int 0, .int 0, .int 0, .long 0, .int (-1), .int 0, .int 0, .int 0])), (a2, .inl (g11, 65000, .inl (fun _ => 0))), (a42, .inr (4, [.ref a49, .ref a50, .ref a51, .ref a52, .ref a53, .ref a54, .ref a55, .ref a56, .ref a57, .ref a58, .ref a59, .ref a60, .ref a61, .ref a62, .int 0, .int 0, .int 0, .int 0, .int 0])), (a49, .inl (g63, 2000, .inl f3)), (a20, .inl (g28, 2003, .inl f4)), (a21, .inl (g29, 2003, .inl f5)), (a30, .inl (g39, 224, .inl f6)), (a31, .inl (g40, 224, .inl f7)), (a19, .inl (g27, 2003, .inl (upd (upd (upd (fun _ => 0) 0 0) 1 0) 2 0))), (a12, .inr (9, [.ref a18, .ref a19, .ref a20, .ref a21, .ref a22, .ref a23, .ref a24, .int 0, .ref a49, .int 0, .int 3, .int 0])), (a18, .inl (g26, 2003, .inl (upd (upd (upd (fun _ => 0) 0 0) 1 0) 2 0))), (a13, .inr (0, [.ref a12, .ref a30, .ref a31, .ref a32, .ref a33, .ref a34, .ref a35, .ref a36, .ref a37, .ref a38, .int 1, .int 0, .int 0, .int 0, .int 0, .int 0, .int 0, .int 0])), (a4, .inr (3, [.ref a12, .ref a13, .ref a14, .ref a15, .ref a16, .ref a17, .ref a42, .int 0, .int 0, .int 0, .int 0, .int 0, .int 0, .int 0, .int 0, .int 0, .int 0, .int 0, .int 0, .int 0])), (a14, .inl (g41, 6, .inl f8))] H := hP
      have hD : va_D A [(a0, .inr (11, [.ref a2, .ref a3, .ref a4, .ref a5, .ref a6, .ref a7, .ref a8, .ref a9, .ref a10, .int 0, .int 0, .int 0, .int (-1), .int 0, .int (-1)])), (a10, .inr (2, [.ref a42, .ref a43, .ref a44, .ref a45, .ref a46, .ref a47, .ref a48, .int 0, .int 0, .int 0, .int 0, .int 0, .int 0, .int 0, .int 0, .long 0, .int (-1), .int 0, .int 0, .int 0])), (a2, .inl (g11, 65000, .inl (fun _ => 0))), (a42, .inr (4, [.ref a49, .ref a50, .ref a51, .ref a52, .ref a53, .ref a54, .ref a55, .ref a56, .ref a57, .ref a58, .ref a59, .ref a60, .ref a61, .ref a62, .int 0, .int 0, .int 0, .int 0, .int 0])), (a49, .inl (g63, 2000, .inl f3)), (a20, .inl (g28, 2003, .inl f4)), (a21, .inl (g29, 2003, .inl f5)), (a30, .inl (g39, 224, .inl f6)), (a31, .inl (g40, 224, .inl f7)), (a19, .inl (g27, 2003, .inl (upd (upd (upd (fun _ => 0) 0 0) 1 0) 2 0))), (a12, .inr (9, [.ref a18, .ref a19, .ref a20, .ref a21, .ref a22, .ref a23, .ref a24, .int 0, .ref a49, .int 0, .int 3, .int 0])), (a18, .inl (g26, 2003, .inl (upd (upd (upd (fun _ => 0) 0 0) 1 0) 2 0))), (a13, .inr (0, [.ref a12, .ref a30, .ref a31, .ref a32, .ref a33, .ref a34, .ref a35, .ref a36, .ref a37, .ref a38, .int 1, .int 0, .int 0, .int 0, .int 0, .int 0, .int 0, .int 0])), (a4, .inr (3, [.ref a12, .ref a13, .ref a14, .ref a15, .ref a16, .ref a17, .ref a42, .int 0, .int 0, .int 0, .int 0, .int 0, .int 0, .int 0, .int 0, .int 0, .int 0, .int 0, .int 0, .int 0])), (a14, .inl (g41, 6, .inl f8))] := hD
      refine W.widen (k := 0) (n := 0) (Nat.le_of_ble_eq_true rfl) (Nat.le_of_ble_eq_true rfl) ?_
      refine lv_is 1 hw ?_
      have hK := hK.sub (tys' := [(g11, .byte), (g26, .int), (g27, .int), (g28, .int), (g29, .int), (g39, .int), (g40, .boolean), (g41, .int), (g63, .byte)]) [0, 1, 2, 3, 4, 5, 6, 7, 8] rfl
      refine va_put (D := (dC, dI)) (ci := 11) (v := .int 1) (ty := .int) (C := RX11) (T := TX11) (N := 15) hx hb hts iX11 tyX11 tyX11_ok nmX11 hown hK hP hD hS 0 rfl rfl 11 (by decide) (hts _ k261) (fun _ h9 => h9) rfl (by decide +kernel) rfl rfl (Nat.le_of_ble_eq_true rfl) dX11_load_54 (fun H locs hP hD hS => ?_)
      have hP : va_P (dC, dI) vwCl [(a0, .inr (11, [.ref a2, .ref a3, .ref a4, .ref a5, .ref a6, .ref a7, .ref a8, .ref a9, .ref a10, .int 0, .int 0, .int 1, .int (-1), .int 0, .int (-1)])), (a10, .inr (2, [.ref a42, .ref a43, .ref a44, .ref a45, .ref a46, .ref a47, .ref a48, .int 0, .int 0, .int 0, .int 0, .int 0, .int 0, .int 0, .int 0, .long 0, .int (-1), .int 0, .int 0, .int 0])), (a2, .inl (g11, 65000, .inl (fun _ => 0))), (a42, .inr (4, [.ref a49, .ref a50, .ref a51, .ref a52, .ref a53, .ref a54, .ref a55, .ref a56, .ref a57, .ref a58, .ref a59, .ref a60, .ref a61, .ref a62, .int 0, .int 0, .int 0, .int 0, .int 0])), (a49, .inl (g63, 2000, .inl f3)), (a20, .inl (g28, 2003, .inl f4)), (a21, .inl (g29, 2003, .inl f5)), (a30, .inl (g39, 224, .inl f6)), (a31, .inl (g40, 224, .inl f7)), (a19, .inl (g27, 2003, .inl (upd (upd (upd (fun _ => 0) 0 0) 1 0) 2 0))), (a12, .inr (9, [.ref a18, .ref a19, .ref a20, .ref a21, .ref a22, .ref a23, .ref a24, .int 0, .ref a49, .int 0, .int 3, .int 0])), (a18, .inl (g26, 2003, .inl (upd (upd (upd (fun _ => 0) 0 0) 1 0) 2 0))), (a13, .inr (0, [.ref a12, .ref a30, .ref a31, .ref a32, .ref a33, .ref a34, .ref a35, .ref a36, .ref a37, .ref a38, .int 1, .int 0, .int 0, .int 0, .int 0, .int 0, .int 0, .int 0])), (a4, .inr (3, [.ref a12, .ref a13, .ref a14, .ref a15, .ref a16, .ref a17, .ref a42, .int 0, .int 0, .int 0, .int 0, .int 0, .int 0, .int 0, .int 0, .int 0, .int 0, .int 0, .int 0, .int 0])), (a14, .inl (g41, 6, .inl f8))] H := hP
      have hD : va_D A [(a0, .inr (11, [.ref a2, .ref a3, .ref a4, .ref a5, .ref a6, .ref a7, .ref a8, .ref a9, .ref a10, .int 0, .int 0, .int 1, .int (-1), .int 0, .int (-1)])), (a10, .inr (2, [.ref a42, .ref a43, .ref a44, .ref a45, .ref a46, .ref a47, .ref a48, .int 0, .int 0, .int 0, .int 0, .int 0, .int 0, .int 0, .int 0, .long 0, .int (-1), .int 0, .int 0, .int 0])), (a2, .inl (g11, 65000, .inl (fun _ => 0))), (a42, .inr (4, [.ref a49, .ref a50, .ref a51, .ref a52, .ref a53, .ref a54, .ref a55, .ref a56, .ref a57, .ref a58, .ref a59, .ref a60, .ref a61, .ref a62, .int 0, .int 0, .int 0, .int 0, .int 0])), (a49, .inl (g63, 2000, .inl f3)), (a20, .inl (g28, 2003, .inl f4)), (a21, .inl (g29, 2003, .inl f5)), (a30, .inl (g39, 224, .inl f6)), (a31, .inl (g40, 224, .inl f7)), (a19, .inl (g27, 2003, .inl (upd (upd (upd (fun _ => 0) 0 0) 1 0) 2 0))), (a12, .inr (9, [.ref a18, .ref a19, .ref a20, .ref a21, .ref a22, .ref a23, .ref a24, .int 0, .ref a49, .int 0, .int 3, .int 0])), (a18, .inl (g26, 2003, .inl (upd (upd (upd (fun _ => 0) 0 0) 1 0) 2 0))), (a13, .inr (0, [.ref a12, .ref a30, .ref a31, .ref a32, .ref a33, .ref a34, .ref a35, .ref a36, .ref a37, .ref a38, .int 1, .int 0, .int 0, .int 0, .int 0, .int 0, .int 0, .int 0])), (a4, .inr (3, [.ref a12, .ref a13, .ref a14, .ref a15, .ref a16, .ref a17, .ref a42, .int 0, .int 0, .int 0, .int 0, .int 0, .int 0, .int 0, .int 0, .int 0, .int 0, .int 0, .int 0, .int 0])), (a14, .inl (g41, 6, .inl f8))] := hD
      refine lv_aload_n hx hb dX11_load_57 rfl (lv_at hl 1 rfl) ?_
      refine lv_aload_n hx hb dX11_load_58 rfl (lv_at hl 1 rfl) ?_
      refine va_get (D := (dC, dI)) (ci := 11) (v := .ref a4) (C := RX11) (T := TX11) (N := 15) hx hb hts iX11 hown hK hP 0 rfl rfl 2 (by decide) (hts _ k54) (fun _ h9 => h9) rfl dX11_load_59 ?_
      refine lv_aload_n hx hb dX11_load_62 rfl (lv_at hl 1 rfl) ?_
      refine va_get (D := (dC, dI)) (ci := 11) (v := .int 1) (C := RX11) (T := TX11) (N := 15) hx hb hts iX11 hown hK hP 0 rfl rfl 11 (by decide) (hts _ k261) (fun _ h9 => h9) rfl dX11_load_63 ?_
      refine xV_i (n := 1) (As := [.int 1]) (rest := [.ref a0]) (wc := [(a4, .inr (3, [.ref a12, .ref a13, .ref a14, .ref a15, .ref a16, .ref a17, .ref a42, .int 0, .int 0, .int 0, .int 0, .int 0, .int 0, .int 0, .int 0, .int 0, .int 0, .int 0, .int 0, .int 0])), (a14, .inl (g41, 6, .inl f8))]) (wr := [(a0, .inr (11, [.ref a2, .ref a3, .ref a4, .ref a5, .ref a6, .ref a7, .ref a8, .ref a9, .ref a10, .int 0, .int 0, .int 1, .int (-1), .int 0, .int (-1)])), (a10, .inr (2, [.ref a42, .ref a43, .ref a44, .ref a45, .ref a46, .ref a47, .ref a48, .int 0, .int 0, .int 0, .int 0, .int 0, .int 0, .int 0, .int 0, .long 0, .int (-1), .int 0, .int 0, .int 0])), (a2, .inl (g11, 65000, .inl (fun _ => 0))), (a42, .inr (4, [.ref a49, .ref a50, .ref a51, .ref a52, .ref a53, .ref a54, .ref a55, .ref a56, .ref a57, .ref a58, .ref a59, .ref a60, .ref a61, .ref a62, .int 0, .int 0, .int 0, .int 0, .int 0])), (a49, .inl (g63, 2000, .inl f3)), (a20, .inl (g28, 2003, .inl f4)), (a21, .inl (g29, 2003, .inl f5)), (a30, .inl (g39, 224, .inl f6)), (a31, .inl (g40, 224, .inl f7)), (a19, .inl (g27, 2003, .inl (upd (upd (upd (fun _ => 0) 0 0) 1 0) 2 0))), (a12, .inr (9, [.ref a18, .ref a19, .ref a20, .ref a21, .ref a22, .ref a23, .ref a24, .int 0, .ref a49, .int 0, .int 3, .int 0])), (a18, .inl (g26, 2003, .inl (upd (upd (upd (fun _ => 0) 0 0) 1 0) 2 0))), (a13, .inr (0, [.ref a12, .ref a30, .ref a31, .ref a32, .ref a33, .ref a34, .ref a35, .ref a36, .ref a37, .ref a38, .int 1, .int 0, .int 0, .int 0, .int 0, .int 0, .int 0, .int 0]))]) (tc := [(g41, .int)]) ⟨hx, hb, hml, hown, hts⟩ (c_X3_faultPlace_1 l dC dI a4 a12 a13 a14 a15 a16 a17 a42 g41 f8 H.size) ⟨k262, k263, k264, k10, k265⟩ (by decide +kernel) rfl ⟨Nat.le_of_ble_eq_true rfl, Nat.le_of_ble_eq_true rfl⟩ ⟨Nat.le_of_ble_eq_true rfl, Nat.le_of_ble_eq_true rfl⟩ hK hP hD hS hA hN [13, 14] [0, 1, 2, 3, 4, 5, 6, 7, 8, 9, 10, 11, 12] [7] rfl rfl (by decide) (by decide) rfl 0 rfl rfl hl.1 rfl (Nat.le_of_ble_eq_true rfl) dX11_load_66 (fun r9 x9 H locs hw hK hP hD hS => ?_)
      have hK : va_K (dC, dI) vwCl [(g11, .byte), (g26, .int), (g27, .int), (g28, .int), (g29, .int), (g39, .int), (g40, .boolean), (g41, .int), (g63, .byte), (g41, .int)] s := hK
      have hP : va_P (dC, dI) vwCl [(a0, .inr (11, [.ref a2, .ref a3, .ref a4, .ref a5, .ref a6, .ref a7, .ref a8, .ref a9, .ref a10, .int 0, .int 0, .int 1, .int (-1), .int 0, .int (-1)])), (a10, .inr (2, [.ref a42, .ref a43, .ref a44, .ref a45, .ref a46, .ref a47, .ref a48, .int 0, .int 0, .int 0, .int 0, .int 0, .int 0, .int 0, .int 0, .long 0, .int (-1), .int 0, .int 0, .int 0])), (a2, .inl (g11, 65000, .inl (fun _ => 0))), (a42, .inr (4, [.ref a49, .ref a50, .ref a51, .ref a52, .ref a53, .ref a54, .ref a55, .ref a56, .ref a57, .ref a58, .ref a59, .ref a60, .ref a61, .ref a62, .int 0, .int 0, .int 0, .int 0, .int 0])), (a49, .inl (g63, 2000, .inl f3)), (a20, .inl (g28, 2003, .inl f4)), (a21, .inl (g29, 2003, .inl f5)), (a30, .inl (g39, 224, .inl f6)), (a31, .inl (g40, 224, .inl f7)), (a19, .inl (g27, 2003, .inl (upd (upd (upd (fun _ => 0) 0 0) 1 0) 2 0))), (a12, .inr (9, [.ref a18, .ref a19, .ref a20, .ref a21, .ref a22, .ref a23, .ref a24, .int 0, .ref a49, .int 0, .int 3, .int 0])), (a18, .inl (g26, 2003, .inl (upd (upd (upd (fun _ => 0) 0 0) 1 0) 2 0))), (a13, .inr (0, [.ref a12, .ref a30, .ref a31, .ref a32, .ref a33, .ref a34, .ref a35, .ref a36, .ref a37, .ref a38, .int 1, .int 0, .int 0, .int 0, .int 0, .int 0, .int 0, .int 0])), (a4, .inr (3, [.ref a12, .ref a13, .ref a14, .ref a15, .ref a16, .ref a17, .ref a42, .int 0, .int 0, .int 0, .int 0, .int 0, .int 0, .int 0, .int 0, .int 0, .int 0, .int 0, .int 0, .int 0])), (a14, .inl (g41, 6, .inl f8))] H := hP
      have hD : va_D A [(a0, .inr (11, [.ref a2, .ref a3, .ref a4, .ref a5, .ref a6, .ref a7, .ref a8, .ref a9, .ref a10, .int 0, .int 0, .int 1, .int (-1), .int 0, .int (-1)])), (a10, .inr (2, [.ref a42, .ref a43, .ref a44, .ref a45, .ref a46, .ref a47, .ref a48, .int 0, .int 0, .int 0, .int 0, .int 0, .int 0, .int 0, .int 0, .long 0, .int (-1), .int 0, .int 0, .int 0])), (a2, .inl (g11, 65000, .inl (fun _ => 0))), (a42, .inr (4, [.ref a49, .ref a50, .ref a51, .ref a52, .ref a53, .ref a54, .ref a55, .ref a56, .ref a57, .ref a58, .ref a59, .ref a60, .ref a61, .ref a62, .int 0, .int 0, .int 0, .int 0, .int 0])), (a49, .inl (g63, 2000, .inl f3)), (a20, .inl (g28, 2003, .inl f4)), (a21, .inl (g29, 2003, .inl f5)), (a30, .inl (g39, 224, .inl f6)), (a31, .inl (g40, 224, .inl f7)), (a19, .inl (g27, 2003, .inl (upd (upd (upd (fun _ => 0) 0 0) 1 0) 2 0))), (a12, .inr (9, [.ref a18, .ref a19, .ref a20, .ref a21, .ref a22, .ref a23, .ref a24, .int 0, .ref a49, .int 0, .int 3, .int 0])), (a18, .inl (g26, 2003, .inl (upd (upd (upd (fun _ => 0) 0 0) 1 0) 2 0))), (a13, .inr (0, [.ref a12, .ref a30, .ref a31, .ref a32, .ref a33, .ref a34, .ref a35, .ref a36, .ref a37, .ref a38, .int 1, .int 0, .int 0, .int 0, .int 0, .int 0, .int 0, .int 0])), (a4, .inr (3, [.ref a12, .ref a13, .ref a14, .ref a15, .ref a16, .ref a17, .ref a42, .int 0, .int 0, .int 0, .int 0, .int 0, .int 0, .int 0, .int 0, .int 0, .int 0, .int 0, .int 0, .int 0])), (a14, .inl (g41, 6, .inl f8))] := hD
      refine W.widen (k := 0) (n := 0) (Nat.le_of_ble_eq_true rfl) (Nat.le_of_ble_eq_true rfl) ?_
      refine lv_is x9 hw ?_
      have hK := hK.sub (tys' := [(g11, .byte), (g26, .int), (g27, .int), (g28, .int), (g29, .int), (g39, .int), (g40, .boolean), (g41, .int), (g63, .byte)]) [0, 1, 2, 3, 4, 5, 6, 7, 8] rfl
      refine va_put (D := (dC, dI)) (ci := 11) (v := .int x9) (ty := .int) (C := RX11) (T := TX11) (N := 15) hx hb hts iX11 tyX11 tyX11_ok nmX11 hown hK hP hD hS 0 rfl rfl 12 (by decide) (hts _ k178) (fun _ h9 => h9) rfl (by decide +kernel) rfl rfl (Nat.le_of_ble_eq_true rfl) dX11_load_69 (fun H locs hP hD hS => ?_)
      have hP : va_P (dC, dI) vwCl [(a0, .inr (11, [.ref a2, .ref a3, .ref a4, .ref a5, .ref a6, .ref a7, .ref a8, .ref a9, .ref a10, .int 0, .int 0, .int 1, .int x9, .int 0, .int (-1)])), (a10, .inr (2, [.ref a42, .ref a43, .ref a44, .ref a45, .ref a46, .ref a47, .ref a48, .int 0, .int 0, .int 0, .int 0, .int 0, .int 0, .int 0, .int 0, .long 0, .int (-1), .int 0, .int 0, .int 0])), (a2, .inl (g11, 65000, .inl (fun _ => 0))), (a42, .inr (4, [.ref a49, .ref a50, .ref a51, .ref a52, .ref a53, .ref a54, .ref a55, .ref a56, .ref a57, .ref a58, .ref a59, .ref a60, .ref a61, .ref a62, .int 0, .int 0, .int 0, .int 0, .int 0])), (a49, .inl (g63, 2000, .inl f3)), (a20, .inl (g28, 2003, .inl f4)), (a21, .inl (g29, 2003, .inl f5)), (a30, .inl (g39, 224, .inl f6)), (a31, .inl (g40, 224, .inl f7)), (a19, .inl (g27, 2003, .inl (upd (upd (upd (fun _ => 0) 0 0) 1 0) 2 0))), (a12, .inr (9, [.ref a18, .ref a19, .ref a20, .ref a21, .ref a22, .ref a23, .ref a24, .int 0, .ref a49, .int 0, .int 3, .int 0])), (a18, .inl (g26, 2003, .inl (upd (upd (upd (fun _ => 0) 0 0) 1 0) 2 0))), (a13, .inr (0, [.ref a12, .ref a30, .ref a31, .ref a32, .ref a33, .ref a34, .ref a35, .ref a36, .ref a37, .ref a38, .int 1, .int 0, .int 0, .int 0, .int 0, .int 0, .int 0, .int 0])), (a4, .inr (3, [.ref a12, .ref a13, .ref a14, .ref a15, .ref a16, .ref a17, .ref a42, .int 0, .int 0, .int 0, .int 0, .int 0, .int 0, .int 0, .int 0, .int 0, .int 0, .int 0, .int 0, .int 0])), (a14, .inl (g41, 6, .inl f8))] H := hP
      have hD : va_D A [(a0, .inr (11, [.ref a2, .ref a3, .ref a4, .ref a5, .ref a6, .ref a7, .ref a8, .ref a9, .ref a10, .int 0, .int 0, .int 1, .int x9, .int 0, .int (-1)])), (a10, .inr (2, [.ref a42, .ref a43, .ref a44, .ref a45, .ref a46, .ref a47, .ref a48, .int 0, .int 0, .int 0, .int 0, .int 0, .int 0, .int 0, .int 0, .long 0, .int (-1), .int 0, .int 0, .int 0])), (a2, .inl (g11, 65000, .inl (fun _ => 0))), (a42, .inr (4, [.ref a49, .ref a50, .ref a51, .ref a52, .ref a53, .ref a54, .ref a55, .ref a56, .ref a57, .ref a58, .ref a59, .ref a60, .ref a61, .ref a62, .int 0, .int 0, .int 0, .int 0, .int 0])), (a49, .inl (g63, 2000, .inl f3)), (a20, .inl (g28, 2003, .inl f4)), (a21, .inl (g29, 2003, .inl f5)), (a30, .inl (g39, 224, .inl f6)), (a31, .inl (g40, 224, .inl f7)), (a19, .inl (g27, 2003, .inl (upd (upd (upd (fun _ => 0) 0 0) 1 0) 2 0))), (a12, .inr (9, [.ref a18, .ref a19, .ref a20, .ref a21, .ref a22, .ref a23, .ref a24, .int 0, .ref a49, .int 0, .int 3, .int 0])), (a18, .inl (g26, 2003, .inl (upd (upd (upd (fun _ => 0) 0 0) 1 0) 2 0))), (a13, .inr (0, [.ref a12, .ref a30, .ref a31, .ref a32, .ref a33, .ref a34, .ref a35, .ref a36, .ref a37, .ref a38, .int 1, .int 0, .int 0, .int 0, .int 0, .int 0, .int 0, .int 0])), (a4, .inr (3, [.ref a12, .ref a13, .ref a14, .ref a15, .ref a16, .ref a17, .ref a42, .int 0, .int 0, .int 0, .int 0, .int 0, .int 0, .int 0, .int 0, .int 0, .int 0, .int 0, .int 0, .int 0])), (a14, .inl (g41, 6, .inl f8))] := hD
      refine lv_aload_n hx hb dX11_load_72 rfl (lv_at hl 1 rfl) ?_
      refine va_get (D := (dC, dI)) (ci := 11) (v := .int 1) (C := RX11) (T := TX11) (N := 15) hx hb hts iX11 hown hK hP 0 rfl rfl 11 (by decide) (hts _ k261) (fun _ h9 => h9) rfl dX11_load_73 ?_
      refine lv_if_eq (tgt := 81) hx hb dX11_load_76 (by decide) (fun c9 => absurd c9 (by decide)) (fun _ => ?_)
      refine lv_iconst (v := (-1)) hx hb dX11_load_79 (by decide) ?_
      have hP9 := hP.sub (ws' := []) [] rfl
      have hD9 := hD.sub (ws' := []) [] (by decide) rfl
      have hK9 := hK.sub (tys' := []) [] rfl
      refine W.widen (k := 0) (n := 0) (Nat.le_of_ble_eq_true rfl) (Nat.le_of_ble_eq_true rfl) ?_
      exact W.iret (v := (-1)) hx hb hr (fun t ht hW => ⟨⟨(-1), (), rfl, rfl, by rw [ht]; exact hP9, va_K.moved hW.alike hK9, hD9⟩, hS.F ht⟩) hS.2.2 dX11_load_80
    · refine lv_iconst (v := (-1)) hx hb dX11_load_21 (by decide) ?_
      have hP9 := hP.sub (ws' := []) [] rfl
      have hD9 := hD.sub (ws' := []) [] (by decide) rfl
      have hK9 := hK.sub (tys' := []) [] rfl
      refine W.widen (k := 0) (n := 0) (Nat.le_of_ble_eq_true rfl) (Nat.le_of_ble_eq_true rfl) ?_
      exact W.iret (v := (-1)) hx hb hr (fun t ht hW => ⟨⟨(-1), (), rfl, rfl, by rw [ht]; exact hP9, va_K.moved hW.alike hK9, hD9⟩, hS.F ht⟩) hS.2.2 dX11_load_22
set_option maxHeartbeats 4000000 in
set_option maxRecDepth 100000 in
theorem c_X11_fault_1 (l : Launch) (dC : Nat → ClassId) (dI : Nat → Nat → Nat) (a0 : Nat) (p1 : Int32) (a2 : Nat) (a3 : Nat) (a4 : Nat) (a5 : Nat) (a6 : Nat) (a7 : Nat) (a8 : Nat) (a9 : Nat) (a10 : Nat) (sz : Nat) : Met l yX11_fault (Cond.code yX11_fault cX11_fault 2 (some .int) :: wB) { frames := 0, cells := 0, slots := 0, locals := 0 } (va_Pc [.ref a0, .int p1] (pX (dC, dI) sz [(a0, .inr (11, [.ref a2, .ref a3, .ref a4, .ref a5, .ref a6, .ref a7, .ref a8, .ref a9, .ref a10, .int 0, .int 0, .int 0, .int (-1), .int 0, .int (-1)]))] [])) (va_Qi (fun (r : Int32) (z : Unit) => r = (fFau p1)) (fun z t => qX (dC, dI) [] [] (va_A [(a0, .inr (11, [.ref a2, .ref a3, .ref a4, .ref a5, .ref a6, .ref a7, .ref a8, .ref a9, .ref a10, .int 0, .int 0, .int 0, .int (-1), .int 0, .int (-1)]))] sz) t) (va_A [(a0, .inr (11, [.ref a2, .ref a3, .ref a4, .ref a5, .ref a6, .ref a7, .ref a8, .ref a9, .ref a10, .int 0, .int 0, .int 0, .int (-1), .int 0, .int (-1)]))] sz)) 0 0 (va_A [(a0, .inr (11, [.ref a2, .ref a3, .ref a4, .ref a5, .ref a6, .ref a7, .ref a8, .ref a9, .ref a10, .int 0, .int 0, .int 0, .int (-1), .int 0, .int (-1)]))] sz) := by
  refine Met.ofW (cc := cX11_fault) (maxL := 2) (ret := (some .int)) (by decide) rfl ?_
  intro p e s m args below meth c s₁ B hml hv
  obtain ⟨rfl, hsz, hP, hK, hD0, hN⟩ := hv
  have hx := B.exec
  have hb := B.bytes
  have hr := B.returns
  have hts : ∀ w ∈ wB, w.before _ s = true := fun w h => atoms_spec (ws := Cond.code yX11_fault cX11_fault 2 (some .int) :: wB) B.pre w (List.mem_cons_of_mem _ h)
  have hown : s.vm.findClass RX11 = some m.cls := findClass_of_methodNamed B.named
  have hlocks := B.notSynchronized
  subst hsz
  have hD := hD0.self (sz := s.heap.size)
  generalize hAe : va_A [(a0, .inr (11, [.ref a2, .ref a3, .ref a4, .ref a5, .ref a6, .ref a7, .ref a8, .ref a9, .ref a10, .int 0, .int 0, .int 0, .int (-1), .int 0, .int (-1)]))] s.heap.size = A at hD ⊢
  have hA : ∀ q : Nat, s.heap.size ≤ q → A q := fun q h => by rw [← hAe]; exact Or.inr h
  have hS : va_S A s.heap s.heap [] := va_S.rf
  have hP : va_P (dC, dI) vwCl [(a0, .inr (11, [.ref a2, .ref a3, .ref a4, .ref a5, .ref a6, .ref a7, .ref a8, .ref a9, .ref a10, .int 0, .int 0, .int 0, .int (-1), .int 0, .int (-1)]))] s.heap := hP
  have hl := lv_entry ([.ref a0, .int p1]) (n := 2) (Nat.le_of_ble_eq_true rfl)
  rw [lg_entry_eq]
  generalize (lg_sl ([.ref a0, .int p1]) ++ List.replicate (2 - (lg_sl ([.ref a0, .int p1])).length) Slot.unset).toArray = ls at hl ⊢
  have hl : lv_has ls 2 [(0, .ref a0), (1, .int p1)] := hl
  refine lv_iload_n hx hb dX11_fault_0 rfl (lv_at hl 1 rfl) ?_
  rcases tsw3 p1 with h1 | rfl | rfl | rfl | rfl
  · refine lv_tableOut (tgt := 52) hx hb dX11_fault_1 h1 (by decide) ?_
    refine lv_iconst (v := (-1)) hx hb dX11_fault_52 (by decide) ?_
    have hP9 := hP.sub (ws' := []) [] rfl
    have hD9 := hD.sub (ws' := []) [] (by decide) rfl
    have hK9 := hK.sub (tys' := []) [] rfl
    refine W.widen (k := 0) (n := 0) (Nat.le_of_ble_eq_true rfl) (Nat.le_of_ble_eq_true rfl) ?_
    exact W.iret (v := (-1)) hx hb hr (fun t ht hW => ⟨⟨(-1), (), rfl, (by revert h1; simp only [fFau, Int32.lt_iff_toInt_lt, Int32.le_iff_toInt_le, ← Int32.toInt_inj, z0, z1, z2, z3, z10, z11, z12, z13, z14, z20000, zm1, z50]; intros; first | rfl | decide | (split <;> first | rfl | (exfalso; omega))), by rw [ht]; exact hP9, va_K.moved hW.alike hK9, hD9⟩, hS.F ht⟩) hS.2.2 dX11_fault_53
  · refine lv_tableIn (off := 31) (tgt := 32) hx hb dX11_fault_1 (by decide) (by decide) rfl (by decide) ?_
    refine lv_aload_n hx hb dX11_fault_32 rfl (lv_at hl 0 rfl) ?_
    refine va_get (D := (dC, dI)) (ci := 11) (v := .int 0) (C := RX11) (T := TX11) (N := 15) hx hb hts iX11 hown hK hP 0 rfl rfl 11 (by decide) (hts _ k261) (fun _ h9 => h9) rfl dX11_fault_33 ?_
    have hP9 := hP.sub (ws' := []) [] rfl
    have hD9 := hD.sub (ws' := []) [] (by decide) rfl
    have hK9 := hK.sub (tys' := []) [] rfl
    refine W.widen (k := 0) (n := 0) (Nat.le_of_ble_eq_true rfl) (Nat.le_of_ble_eq_true rfl) ?_
    exact W.iret (v := 0) hx hb hr (fun t ht hW => ⟨⟨0, (), rfl, (by simp only [fFau, Int32.lt_iff_toInt_lt, Int32.le_iff_toInt_le, ← Int32.toInt_inj, z0, z1, z2, z3, z10, z11, z12, z13, z14, z20000, zm1, z50]; intros; first | rfl | decide | (split <;> first | rfl | (exfalso; omega))), by rw [ht]; exact hP9, va_K.moved hW.alike hK9, hD9⟩, hS.F ht⟩) hS.2.2 dX11_fault_36
  · refine lv_tableIn (off := 36) (tgt := 37) hx hb dX11_fault_1 (by decide) (by decide) rfl (by decide) ?_
    refine lv_aload_n hx hb dX11_fault_37 rfl (lv_at hl 0 rfl) ?_
    refine va_get (D := (dC, dI)) (ci := 11) (v := .int (-1)) (C := RX11) (T := TX11) (N := 15) hx hb hts iX11 hown hK hP 0 rfl rfl 12 (by decide) (hts _ k178) (fun _ h9 => h9) rfl dX11_fault_38 ?_
    have hP9 := hP.sub (ws' := []) [] rfl
    have hD9 := hD.sub (ws' := []) [] (by decide) rfl
    have hK9 := hK.sub (tys' := []) [] rfl
    refine W.widen (k := 0) (n := 0) (Nat.le_of_ble_eq_true rfl) (Nat.le_of_ble_eq_true rfl) ?_
    exact W.iret (v := (-1)) hx hb hr (fun t ht hW => ⟨⟨(-1), (), rfl, (by simp only [fFau, Int32.lt_iff_toInt_lt, Int32.le_iff_toInt_le, ← Int32.toInt_inj, z0, z1, z2, z3, z10, z11, z12, z13, z14, z20000, zm1, z50]; intros; first | rfl | decide | (split <;> first | rfl | (exfalso; omega))), by rw [ht]; exact hP9, va_K.moved hW.alike hK9, hD9⟩, hS.F ht⟩) hS.2.2 dX11_fault_41
  · refine lv_tableIn (off := 41) (tgt := 42) hx hb dX11_fault_1 (by decide) (by decide) rfl (by decide) ?_
    refine lv_aload_n hx hb dX11_fault_42 rfl (lv_at hl 0 rfl) ?_
    refine va_get (D := (dC, dI)) (ci := 11) (v := .int 0) (C := RX11) (T := TX11) (N := 15) hx hb hts iX11 hown hK hP 0 rfl rfl 13 (by decide) (hts _ k266) (fun _ h9 => h9) rfl dX11_fault_43 ?_
    have hP9 := hP.sub (ws' := []) [] rfl
    have hD9 := hD.sub (ws' := []) [] (by decide) rfl
    have hK9 := hK.sub (tys' := []) [] rfl
    refine W.widen (k := 0) (n := 0) (Nat.le_of_ble_eq_true rfl) (Nat.le_of_ble_eq_true rfl) ?_
    exact W.iret (v := 0) hx hb hr (fun t ht hW => ⟨⟨0, (), rfl, (by simp only [fFau, Int32.lt_iff_toInt_lt, Int32.le_iff_toInt_le, ← Int32.toInt_inj, z0, z1, z2, z3, z10, z11, z12, z13, z14, z20000, zm1, z50]; intros; first | rfl | decide | (split <;> first | rfl | (exfalso; omega))), by rw [ht]; exact hP9, va_K.moved hW.alike hK9, hD9⟩, hS.F ht⟩) hS.2.2 dX11_fault_46
  · refine lv_tableIn (off := 46) (tgt := 47) hx hb dX11_fault_1 (by decide) (by decide) rfl (by decide) ?_
    refine lv_aload_n hx hb dX11_fault_47 rfl (lv_at hl 0 rfl) ?_
    refine va_get (D := (dC, dI)) (ci := 11) (v := .int (-1)) (C := RX11) (T := TX11) (N := 15) hx hb hts iX11 hown hK hP 0 rfl rfl 14 (by decide) (hts _ k179) (fun _ h9 => h9) rfl dX11_fault_48 ?_
    have hP9 := hP.sub (ws' := []) [] rfl
    have hD9 := hD.sub (ws' := []) [] (by decide) rfl
    have hK9 := hK.sub (tys' := []) [] rfl
    refine W.widen (k := 0) (n := 0) (Nat.le_of_ble_eq_true rfl) (Nat.le_of_ble_eq_true rfl) ?_
    exact W.iret (v := (-1)) hx hb hr (fun t ht hW => ⟨⟨(-1), (), rfl, (by simp only [fFau, Int32.lt_iff_toInt_lt, Int32.le_iff_toInt_le, ← Int32.toInt_inj, z0, z1, z2, z3, z10, z11, z12, z13, z14, z20000, zm1, z50]; intros; first | rfl | decide | (split <;> first | rfl | (exfalso; omega))), by rw [ht]; exact hP9, va_K.moved hW.alike hK9, hD9⟩, hS.F ht⟩) hS.2.2 dX11_fault_51
set_option maxHeartbeats 4000000 in
set_option maxRecDepth 100000 in
theorem c_X11_run_1 (l : Launch) (dC : Nat → ClassId) (dI : Nat → Nat → Nat) (a0 : Nat) (p1 : Int32) (a2 : Nat) (a3 : Nat) (a4 : Nat) (a5 : Nat) (a6 : Nat) (a7 : Nat) (a8 : Nat) (a9 : Nat) (a10 : Nat) (a11 : Nat) (a12 : Nat) (a13 : Nat) (a14 : Nat) (a15 : Nat) (a16 : Nat) (a17 : Nat) (sz : Nat) : Met l yX11_run (Cond.code yX11_run cX11_run 3 (some .int) :: wB) { frames := 0, cells := 0, slots := 0, locals := 0 } (va_Pc [.ref a0, .int p1] (pX (dC, dI) sz [(a0, .inr (11, [.ref a2, .ref a3, .ref a4, .ref a5, .ref a6, .ref a7, .ref a8, .ref a9, .ref a10, .int 0, .int 0, .int 0, .int (-1), .int 0, .int (-1)])), (a9, .inr (2, [.ref a11, .ref a12, .ref a13, .ref a14, .ref a15, .ref a16, .ref a17, .int 0, .int 0, .int 0, .int 0, .int 0, .int 0, .int 0, .int 0, .long 0, .int (-1), .int 0, .int 0, .int 0]))] [])) (va_Qi (fun (r : Int32) (z : Unit) => r = (fRun p1)) (fun z t => qX (dC, dI) [] [] (va_A [(a0, .inr (11, [.ref a2, .ref a3, .ref a4, .ref a5, .ref a6, .ref a7, .ref a8, .ref a9, .ref a10, .int 0, .int 0, .int 0, .int (-1), .int 0, .int (-1)])), (a9, .inr (2, [.ref a11, .ref a12, .ref a13, .ref a14, .ref a15, .ref a16, .ref a17, .int 0, .int 0, .int 0, .int 0, .int 0, .int 0, .int 0, .int 0, .long 0, .int (-1), .int 0, .int 0, .int 0]))] sz) t) (va_A [(a0, .inr (11, [.ref a2, .ref a3, .ref a4, .ref a5, .ref a6, .ref a7, .ref a8, .ref a9, .ref a10, .int 0, .int 0, .int 0, .int (-1), .int 0, .int (-1)])), (a9, .inr (2, [.ref a11, .ref a12, .ref a13, .ref a14, .ref a15, .ref a16, .ref a17, .int 0, .int 0, .int 0, .int 0, .int 0, .int 0, .int 0, .int 0, .long 0, .int (-1), .int 0, .int 0, .int 0]))] sz)) 0 0 (va_A [(a0, .inr (11, [.ref a2, .ref a3, .ref a4, .ref a5, .ref a6, .ref a7, .ref a8, .ref a9, .ref a10, .int 0, .int 0, .int 0, .int (-1), .int 0, .int (-1)])), (a9, .inr (2, [.ref a11, .ref a12, .ref a13, .ref a14, .ref a15, .ref a16, .ref a17, .int 0, .int 0, .int 0, .int 0, .int 0, .int 0, .int 0, .int 0, .long 0, .int (-1), .int 0, .int 0, .int 0]))] sz) := by
  refine Met.ofW (cc := cX11_run) (maxL := 3) (ret := (some .int)) (by decide) rfl ?_
  intro p e s m args below meth c s₁ B hml hv
  obtain ⟨rfl, hsz, hP, hK, hD0, hN⟩ := hv
  have hx := B.exec
  have hb := B.bytes
  have hr := B.returns
  have hts : ∀ w ∈ wB, w.before _ s = true := fun w h => atoms_spec (ws := Cond.code yX11_run cX11_run 3 (some .int) :: wB) B.pre w (List.mem_cons_of_mem _ h)
  have hown : s.vm.findClass RX11 = some m.cls := findClass_of_methodNamed B.named
  have hlocks := B.notSynchronized
  subst hsz
  have hD := hD0.self (sz := s.heap.size)
  generalize hAe : va_A [(a0, .inr (11, [.ref a2, .ref a3, .ref a4, .ref a5, .ref a6, .ref a7, .ref a8, .ref a9, .ref a10, .int 0, .int 0, .int 0, .int (-1), .int 0, .int (-1)])), (a9, .inr (2, [.ref a11, .ref a12, .ref a13, .ref a14, .ref a15, .ref a16, .ref a17, .int 0, .int 0, .int 0, .int 0, .int 0, .int 0, .int 0, .int 0, .long 0, .int (-1), .int 0, .int 0, .int 0]))] s.heap.size = A at hD ⊢
  have hA : ∀ q : Nat, s.heap.size ≤ q → A q := fun q h => by rw [← hAe]; exact Or.inr h
  have hS : va_S A s.heap s.heap [] := va_S.rf
  have hP : va_P (dC, dI) vwCl [(a0, .inr (11, [.ref a2, .ref a3, .ref a4, .ref a5, .ref a6, .ref a7, .ref a8, .ref a9, .ref a10, .int 0, .int 0, .int 0, .int (-1), .int 0, .int (-1)])), (a9, .inr (2, [.ref a11, .ref a12, .ref a13, .ref a14, .ref a15, .ref a16, .ref a17, .int 0, .int 0, .int 0, .int 0, .int 0, .int 0, .int 0, .int 0, .long 0, .int (-1), .int 0, .int 0, .int 0]))] s.heap := hP
  have hl := lv_entry ([.ref a0, .int p1]) (n := 3) (Nat.le_of_ble_eq_true rfl)
  rw [lg_entry_eq]
  generalize (lg_sl ([.ref a0, .int p1]) ++ List.replicate (3 - (lg_sl ([.ref a0, .int p1])).length) Slot.unset).toArray = ls at hl ⊢
  have hl : lv_has ls 3 [(0, .ref a0), (1, .int p1)] := hl
  refine lv_iload_n hx hb dX11_run_0 rfl (lv_at hl 1 rfl) ?_
  refine lv_if_lt (tgt := 11) hx hb dX11_run_1 (by decide) (fun h1 => ?_) (fun h1 => ?_)
  · refine lv_iconst (v := (-1)) hx hb dX11_run_11 (by decide) ?_
    have hP9 := hP.sub (ws' := []) [] rfl
    have hD9 := hD.sub (ws' := []) [] (by decide) rfl
    have hK9 := hK.sub (tys' := []) [] rfl
    refine W.widen (k := 0) (n := 0) (Nat.le_of_ble_eq_true rfl) (Nat.le_of_ble_eq_true rfl) ?_
    exact W.iret (v := (-1)) hx hb hr (fun t ht hW => ⟨⟨(-1), (), rfl, (by revert h1; simp only [fRun, Int32.lt_iff_toInt_lt, Int32.le_iff_toInt_le, ← Int32.toInt_inj, z0, z1, z2, z3, z10, z11, z12, z13, z14, z20000, zm1, z50]; intros; first | rfl | decide | (split <;> first | rfl | (exfalso; omega))), by rw [ht]; exact hP9, va_K.moved hW.alike hK9, hD9⟩, hS.F ht⟩) hS.2.2 dX11_run_12
  · refine lv_iload_n hx hb dX11_run_4 rfl (lv_at hl 1 rfl) ?_
    refine lv_sipush (v := 20000) hx hb dX11_run_5 (by decide) ?_
    refine lv_icmp_le (tgt := 13) hx hb dX11_run_8 (by decide) (fun h2 => ?_) (fun h2 => ?_)
    · refine lv_iconst (v := 0) hx hb dX11_run_13 (by decide) ?_
      refine lv_istore_n (lv' := [(2, .int 0), (0, .ref a0), (1, .int p1)]) hx hb dX11_run_14 rfl hl (by decide) rfl (fun ls hl => ?_)
      refine lv_iload_n hx hb dX11_run_15 rfl (lv_at hl 0 rfl) ?_
      refine lv_iload_n hx hb dX11_run_16 rfl (lv_at hl 2 rfl) ?_
      refine lv_icmp_ge (tgt := 51) hx hb dX11_run_17 (by decide) (fun h3 => ?_) (fun h3 => ?_)
      · refine lv_iload_n hx hb dX11_run_51 rfl (lv_at hl 0 rfl) ?_
        refine lv_if_le (tgt := 88) hx hb dX11_run_52 (by decide) (fun _ => ?_) (fun c9 => absurd c9 (by decide))
        refine lv_iload_n hx hb dX11_run_88 rfl (lv_at hl 0 rfl) ?_
        have hP9 := hP.sub (ws' := []) [] rfl
        have hD9 := hD.sub (ws' := []) [] (by decide) rfl
        have hK9 := hK.sub (tys' := []) [] rfl
        refine W.widen (k := 0) (n := 0) (Nat.le_of_ble_eq_true rfl) (Nat.le_of_ble_eq_true rfl) ?_
        exact W.iret (v := 0) hx hb hr (fun t ht hW => ⟨⟨0, (), rfl, (by revert h1 h2 h3; simp only [fRun, Int32.lt_iff_toInt_lt, Int32.le_iff_toInt_le, ← Int32.toInt_inj, z0, z1, z2, z3, z10, z11, z12, z13, z14, z20000, zm1, z50]; intros; first | rfl | decide | (split <;> first | rfl | (exfalso; omega))), by rw [ht]; exact hP9, va_K.moved hW.alike hK9, hD9⟩, hS.F ht⟩) hS.2.2 dX11_run_89
      · refine lv_aload_n hx hb dX11_run_20 rfl (lv_at hl 1 rfl) ?_
        refine va_get (D := (dC, dI)) (ci := 11) (v := .ref a9) (C := RX11) (T := TX11) (N := 15) hx hb hts iX11 hown hK hP 0 rfl rfl 7 (by decide) (hts _ k176) (fun _ h9 => h9) rfl dX11_run_21 ?_
        refine va_get (D := (dC, dI)) (ci := 2) (v := .int 0) (C := RX2) (T := TX2) (N := 20) hx hb hts iX2 hown hK hP 1 rfl rfl 7 (by decide) (hts _ k267) (fun _ h9 => h9) rfl dX11_run_24 ?_
        refine lv_iconst (v := 1) hx hb dX11_run_27 (by decide) ?_
        refine lv_icmp_ne (tgt := 51) hx hb dX11_run_28 (by decide) (fun _ => ?_) (fun c9 => absurd c9 (by decide))
        refine lv_iload_n hx hb dX11_run_51 rfl (lv_at hl 0 rfl) ?_
        refine lv_if_le (tgt := 88) hx hb dX11_run_52 (by decide) (fun _ => ?_) (fun c9 => absurd c9 (by decide))
        refine lv_iload_n hx hb dX11_run_88 rfl (lv_at hl 0 rfl) ?_
        have hP9 := hP.sub (ws' := []) [] rfl
        have hD9 := hD.sub (ws' := []) [] (by decide) rfl
        have hK9 := hK.sub (tys' := []) [] rfl
        refine W.widen (k := 0) (n := 0) (Nat.le_of_ble_eq_true rfl) (Nat.le_of_ble_eq_true rfl) ?_
        exact W.iret (v := 0) hx hb hr (fun t ht hW => ⟨⟨0, (), rfl, (by revert h1 h2 h3; simp only [fRun, Int32.lt_iff_toInt_lt, Int32.le_iff_toInt_le, ← Int32.toInt_inj, z0, z1, z2, z3, z10, z11, z12, z13, z14, z20000, zm1, z50]; intros; first | rfl | decide | (split <;> first | rfl | (exfalso; omega))), by rw [ht]; exact hP9, va_K.moved hW.alike hK9, hD9⟩, hS.F ht⟩) hS.2.2 dX11_run_89
    · refine lv_iconst (v := (-1)) hx hb dX11_run_11 (by decide) ?_
      have hP9 := hP.sub (ws' := []) [] rfl
      have hD9 := hD.sub (ws' := []) [] (by decide) rfl
      have hK9 := hK.sub (tys' := []) [] rfl
      refine W.widen (k := 0) (n := 0) (Nat.le_of_ble_eq_true rfl) (Nat.le_of_ble_eq_true rfl) ?_
      exact W.iret (v := (-1)) hx hb hr (fun t ht hW => ⟨⟨(-1), (), rfl, (by revert h1 h2; simp only [fRun, Int32.lt_iff_toInt_lt, Int32.le_iff_toInt_le, ← Int32.toInt_inj, z0, z1, z2, z3, z10, z11, z12, z13, z14, z20000, zm1, z50]; intros; first | rfl | decide | (split <;> first | rfl | (exfalso; omega))), by rw [ht]; exact hP9, va_K.moved hW.alike hK9, hD9⟩, hS.F ht⟩) hS.2.2 dX11_run_12
set_option maxHeartbeats 4000000 in
set_option maxRecDepth 100000 in
theorem c_X11_about_1 (l : Launch) (dC : Nat → ClassId) (dI : Nat → Nat → Nat) (a0 : Nat) (p1 : Int32) (a2 : Nat) (a3 : Nat) (a4 : Nat) (a5 : Nat) (a6 : Nat) (a7 : Nat) (a8 : Nat) (a9 : Nat) (a10 : Nat) (a11 : Nat) (a12 : Nat) (a13 : Nat) (a14 : Nat) (a15 : Nat) (a16 : Nat) (a17 : Nat) (sz : Nat) : Met l yX11_about (Cond.code yX11_about cX11_about 3 (some .int) :: wB) { frames := 0, cells := 0, slots := 0, locals := 0 } (va_Pc [.ref a0, .int p1] (pX (dC, dI) sz [(a0, .inr (11, [.ref a2, .ref a3, .ref a4, .ref a5, .ref a6, .ref a7, .ref a8, .ref a9, .ref a10, .int 0, .int 0, .int 0, .int (-1), .int 0, .int (-1)])), (a9, .inr (2, [.ref a11, .ref a12, .ref a13, .ref a14, .ref a15, .ref a16, .ref a17, .int 0, .int 0, .int 0, .int 0, .int 0, .int 0, .int 0, .int 0, .long 0, .int (-1), .int 0, .int 0, .int 0]))] [])) (va_Qi (fun (r : Int32) (z : Unit) => r = (fAbo p1)) (fun z t => qX (dC, dI) [] [] (va_A [(a0, .inr (11, [.ref a2, .ref a3, .ref a4, .ref a5, .ref a6, .ref a7, .ref a8, .ref a9, .ref a10, .int 0, .int 0, .int 0, .int (-1), .int 0, .int (-1)])), (a9, .inr (2, [.ref a11, .ref a12, .ref a13, .ref a14, .ref a15, .ref a16, .ref a17, .int 0, .int 0, .int 0, .int 0, .int 0, .int 0, .int 0, .int 0, .long 0, .int (-1), .int 0, .int 0, .int 0]))] sz) t) (va_A [(a0, .inr (11, [.ref a2, .ref a3, .ref a4, .ref a5, .ref a6, .ref a7, .ref a8, .ref a9, .ref a10, .int 0, .int 0, .int 0, .int (-1), .int 0, .int (-1)])), (a9, .inr (2, [.ref a11, .ref a12, .ref a13, .ref a14, .ref a15, .ref a16, .ref a17, .int 0, .int 0, .int 0, .int 0, .int 0, .int 0, .int 0, .int 0, .long 0, .int (-1), .int 0, .int 0, .int 0]))] sz)) 0 0 (va_A [(a0, .inr (11, [.ref a2, .ref a3, .ref a4, .ref a5, .ref a6, .ref a7, .ref a8, .ref a9, .ref a10, .int 0, .int 0, .int 0, .int (-1), .int 0, .int (-1)])), (a9, .inr (2, [.ref a11, .ref a12, .ref a13, .ref a14, .ref a15, .ref a16, .ref a17, .int 0, .int 0, .int 0, .int 0, .int 0, .int 0, .int 0, .int 0, .long 0, .int (-1), .int 0, .int 0, .int 0]))] sz) := by
  refine Met.ofW (cc := cX11_about) (maxL := 3) (ret := (some .int)) (by decide) rfl ?_
  intro p e s m args below meth c s₁ B hml hv
  obtain ⟨rfl, hsz, hP, hK, hD0, hN⟩ := hv
  have hx := B.exec
  have hb := B.bytes
  have hr := B.returns
  have hts : ∀ w ∈ wB, w.before _ s = true := fun w h => atoms_spec (ws := Cond.code yX11_about cX11_about 3 (some .int) :: wB) B.pre w (List.mem_cons_of_mem _ h)
  have hown : s.vm.findClass RX11 = some m.cls := findClass_of_methodNamed B.named
  have hlocks := B.notSynchronized
  subst hsz
  have hD := hD0.self (sz := s.heap.size)
  generalize hAe : va_A [(a0, .inr (11, [.ref a2, .ref a3, .ref a4, .ref a5, .ref a6, .ref a7, .ref a8, .ref a9, .ref a10, .int 0, .int 0, .int 0, .int (-1), .int 0, .int (-1)])), (a9, .inr (2, [.ref a11, .ref a12, .ref a13, .ref a14, .ref a15, .ref a16, .ref a17, .int 0, .int 0, .int 0, .int 0, .int 0, .int 0, .int 0, .int 0, .long 0, .int (-1), .int 0, .int 0, .int 0]))] s.heap.size = A at hD ⊢
  have hA : ∀ q : Nat, s.heap.size ≤ q → A q := fun q h => by rw [← hAe]; exact Or.inr h
  have hS : va_S A s.heap s.heap [] := va_S.rf
  have hP : va_P (dC, dI) vwCl [(a0, .inr (11, [.ref a2, .ref a3, .ref a4, .ref a5, .ref a6, .ref a7, .ref a8, .ref a9, .ref a10, .int 0, .int 0, .int 0, .int (-1), .int 0, .int (-1)])), (a9, .inr (2, [.ref a11, .ref a12, .ref a13, .ref a14, .ref a15, .ref a16, .ref a17, .int 0, .int 0, .int 0, .int 0, .int 0, .int 0, .int 0, .int 0, .long 0, .int (-1), .int 0, .int 0, .int 0]))] s.heap := hP
  have hl := lv_entry ([.ref a0, .int p1]) (n := 3) (Nat.le_of_ble_eq_true rfl)
  rw [lg_entry_eq]
  generalize (lg_sl ([.ref a0, .int p1]) ++ List.replicate (3 - (lg_sl ([.ref a0, .int p1])).length) Slot.unset).toArray = ls at hl ⊢
  have hl : lv_has ls 3 [(0, .ref a0), (1, .int p1)] := hl
  refine lv_iload_n hx hb dX11_about_0 rfl (lv_at hl 1 rfl) ?_
  refine lv_iconst (v := 1) hx hb dX11_about_1 (by decide) ?_
  refine lv_icmp_ne (tgt := 10) hx hb dX11_about_2 (by decide) (fun h1 => ?_) (fun h1 => ?_)
  · refine lv_iload_n hx hb dX11_about_10 rfl (lv_at hl 1 rfl) ?_
    refine lv_iconst (v := 2) hx hb dX11_about_11 (by decide) ?_
    refine lv_icmp_ne (tgt := 20) hx hb dX11_about_12 (by decide) (fun h2 => ?_) (fun h2 => ?_)
    · refine lv_aload_n hx hb dX11_about_20 rfl (lv_at hl 0 rfl) ?_
      refine va_get (D := (dC, dI)) (ci := 11) (v := .ref a9) (C := RX11) (T := TX11) (N := 15) hx hb hts iX11 hown hK hP 0 rfl rfl 7 (by decide) (hts _ k176) (fun _ h9 => h9) rfl dX11_about_21 ?_
      refine va_get (D := (dC, dI)) (ci := 2) (v := .int 0) (C := RX2) (T := TX2) (N := 20) hx hb hts iX2 hown hK hP 1 rfl rfl 7 (by decide) (hts _ k267) (fun _ h9 => h9) rfl dX11_about_24 ?_
      refine lv_if_ne (tgt := 73) hx hb dX11_about_27 (by decide) (fun c9 => absurd c9 (by decide)) (fun _ => ?_)
      refine lv_iload_n hx hb dX11_about_30 rfl (lv_at hl 1 rfl) ?_
      refine lv_if_eq (tgt := 57) hx hb dX11_about_31 (by decide) (fun h3 => ?_) (fun h3 => ?_)
      · refine lv_iconst (v := 1) hx hb dX11_about_57 (by decide) ?_
        refine lv_goto (tgt := 62) hx hb dX11_about_58 (by decide) ?_
        refine lv_istore_n (lv' := [(2, .int 1), (0, .ref a0), (1, .int p1)]) hx hb dX11_about_62 rfl hl (by decide) rfl (fun ls hl => ?_)
        refine lv_iload_n hx hb dX11_about_63 rfl (lv_at hl 0 rfl) ?_
        refine lv_if_eq (tgt := 71) hx hb dX11_about_64 (by decide) (fun c9 => absurd c9 (by decide)) (fun _ => ?_)
        refine lv_iconst (v := 0) hx hb dX11_about_67 (by decide) ?_
        refine lv_goto (tgt := 72) hx hb dX11_about_68 (by decide) ?_
        have hP9 := hP.sub (ws' := []) [] rfl
        have hD9 := hD.sub (ws' := []) [] (by decide) rfl
        have hK9 := hK.sub (tys' := []) [] rfl
        refine W.widen (k := 0) (n := 0) (Nat.le_of_ble_eq_true rfl) (Nat.le_of_ble_eq_true rfl) ?_
        exact W.iret (v := 0) hx hb hr (fun t ht hW => ⟨⟨0, (), rfl, (by revert h1 h2 h3; simp only [fAbo, Int32.lt_iff_toInt_lt, Int32.le_iff_toInt_le, ← Int32.toInt_inj, z0, z1, z2, z3, z10, z11, z12, z13, z14, z20000, zm1, z50]; intros; first | rfl | decide | (split <;> first | rfl | (exfalso; omega))), by rw [ht]; exact hP9, va_K.moved hW.alike hK9, hD9⟩, hS.F ht⟩) hS.2.2 dX11_about_72
      · refine lv_iload_n hx hb dX11_about_34 rfl (lv_at hl 1 rfl) ?_
        refine lv_iconst (v := 3) hx hb dX11_about_35 (by decide) ?_
        refine lv_icmp_lt (tgt := 45) hx hb dX11_about_36 (by decide) (fun h4 => ?_) (fun h4 => ?_)
        · refine lv_iload_n hx hb dX11_about_45 rfl (lv_at hl 1 rfl) ?_
          refine lv_bipush (v := 13) hx hb dX11_about_46 (by decide) ?_
          refine lv_icmp_eq (tgt := 57) hx hb dX11_about_48 (by decide) (fun h5 => ?_) (fun h5 => ?_)
          · exact False.elim (by revert h1 h2 h3 h4 h5; simp only [Int32.lt_iff_toInt_lt, Int32.le_iff_toInt_le, ← Int32.toInt_inj, z0, z1, z2, z3, z10, z11, z12, z13, z14, z20000, zm1, z50]; intros; omega)
          · refine lv_iload_n hx hb dX11_about_51 rfl (lv_at hl 1 rfl) ?_
            refine lv_bipush (v := 14) hx hb dX11_about_52 (by decide) ?_
            refine lv_icmp_ne (tgt := 61) hx hb dX11_about_54 (by decide) (fun h6 => ?_) (fun h6 => ?_)
            · refine lv_iconst (v := 0) hx hb dX11_about_61 (by decide) ?_
              refine lv_istore_n (lv' := [(2, .int 0), (0, .ref a0), (1, .int p1)]) hx hb dX11_about_62 rfl hl (by decide) rfl (fun ls hl => ?_)
              refine lv_iload_n hx hb dX11_about_63 rfl (lv_at hl 0 rfl) ?_
              refine lv_if_eq (tgt := 71) hx hb dX11_about_64 (by decide) (fun _ => ?_) (fun c9 => absurd c9 (by decide))
              refine lv_iconst (v := (-1)) hx hb dX11_about_71 (by decide) ?_
              have hP9 := hP.sub (ws' := []) [] rfl
              have hD9 := hD.sub (ws' := []) [] (by decide) rfl
              have hK9 := hK.sub (tys' := []) [] rfl
              refine W.widen (k := 0) (n := 0) (Nat.le_of_ble_eq_true rfl) (Nat.le_of_ble_eq_true rfl) ?_
              exact W.iret (v := (-1)) hx hb hr (fun t ht hW => ⟨⟨(-1), (), rfl, (by revert h1 h2 h3 h4 h5 h6; simp only [fAbo, Int32.lt_iff_toInt_lt, Int32.le_iff_toInt_le, ← Int32.toInt_inj, z0, z1, z2, z3, z10, z11, z12, z13, z14, z20000, zm1, z50]; intros; first | rfl | decide | (split <;> first | rfl | (exfalso; omega))), by rw [ht]; exact hP9, va_K.moved hW.alike hK9, hD9⟩, hS.F ht⟩) hS.2.2 dX11_about_72
            · exact False.elim (by revert h1 h2 h3 h4 h5 h6; simp only [Int32.lt_iff_toInt_lt, Int32.le_iff_toInt_le, ← Int32.toInt_inj, z0, z1, z2, z3, z10, z11, z12, z13, z14, z20000, zm1, z50]; intros; omega)
        · refine lv_iload_n hx hb dX11_about_39 rfl (lv_at hl 1 rfl) ?_
          refine lv_bipush (v := 10) hx hb dX11_about_40 (by decide) ?_
          refine lv_icmp_le (tgt := 57) hx hb dX11_about_42 (by decide) (fun h7 => ?_) (fun h7 => ?_)
          · refine lv_iconst (v := 1) hx hb dX11_about_57 (by decide) ?_
            refine lv_goto (tgt := 62) hx hb dX11_about_58 (by decide) ?_
            refine lv_istore_n (lv' := [(2, .int 1), (0, .ref a0), (1, .int p1)]) hx hb dX11_about_62 rfl hl (by decide) rfl (fun ls hl => ?_)
            refine lv_iload_n hx hb dX11_about_63 rfl (lv_at hl 0 rfl) ?_
            refine lv_if_eq (tgt := 71) hx hb dX11_about_64 (by decide) (fun c9 => absurd c9 (by decide)) (fun _ => ?_)
            refine lv_iconst (v := 0) hx hb dX11_about_67 (by decide) ?_
            refine lv_goto (tgt := 72) hx hb dX11_about_68 (by decide) ?_
            have hP9 := hP.sub (ws' := []) [] rfl
            have hD9 := hD.sub (ws' := []) [] (by decide) rfl
            have hK9 := hK.sub (tys' := []) [] rfl
            refine W.widen (k := 0) (n := 0) (Nat.le_of_ble_eq_true rfl) (Nat.le_of_ble_eq_true rfl) ?_
            exact W.iret (v := 0) hx hb hr (fun t ht hW => ⟨⟨0, (), rfl, (by revert h1 h2 h3 h4 h7; simp only [fAbo, Int32.lt_iff_toInt_lt, Int32.le_iff_toInt_le, ← Int32.toInt_inj, z0, z1, z2, z3, z10, z11, z12, z13, z14, z20000, zm1, z50]; intros; first | rfl | decide | (split <;> first | rfl | (exfalso; omega))), by rw [ht]; exact hP9, va_K.moved hW.alike hK9, hD9⟩, hS.F ht⟩) hS.2.2 dX11_about_72
          · refine lv_iload_n hx hb dX11_about_45 rfl (lv_at hl 1 rfl) ?_
            refine lv_bipush (v := 13) hx hb dX11_about_46 (by decide) ?_
            refine lv_icmp_eq (tgt := 57) hx hb dX11_about_48 (by decide) (fun h8 => ?_) (fun h8 => ?_)
            · refine lv_iconst (v := 1) hx hb dX11_about_57 (by decide) ?_
              refine lv_goto (tgt := 62) hx hb dX11_about_58 (by decide) ?_
              refine lv_istore_n (lv' := [(2, .int 1), (0, .ref a0), (1, .int p1)]) hx hb dX11_about_62 rfl hl (by decide) rfl (fun ls hl => ?_)
              refine lv_iload_n hx hb dX11_about_63 rfl (lv_at hl 0 rfl) ?_
              refine lv_if_eq (tgt := 71) hx hb dX11_about_64 (by decide) (fun c9 => absurd c9 (by decide)) (fun _ => ?_)
              refine lv_iconst (v := 0) hx hb dX11_about_67 (by decide) ?_
              refine lv_goto (tgt := 72) hx hb dX11_about_68 (by decide) ?_
              have hP9 := hP.sub (ws' := []) [] rfl
              have hD9 := hD.sub (ws' := []) [] (by decide) rfl
              have hK9 := hK.sub (tys' := []) [] rfl
              refine W.widen (k := 0) (n := 0) (Nat.le_of_ble_eq_true rfl) (Nat.le_of_ble_eq_true rfl) ?_
              exact W.iret (v := 0) hx hb hr (fun t ht hW => ⟨⟨0, (), rfl, (by revert h1 h2 h3 h4 h7 h8; simp only [fAbo, Int32.lt_iff_toInt_lt, Int32.le_iff_toInt_le, ← Int32.toInt_inj, z0, z1, z2, z3, z10, z11, z12, z13, z14, z20000, zm1, z50]; intros; first | rfl | decide | (split <;> first | rfl | (exfalso; omega))), by rw [ht]; exact hP9, va_K.moved hW.alike hK9, hD9⟩, hS.F ht⟩) hS.2.2 dX11_about_72
            · refine lv_iload_n hx hb dX11_about_51 rfl (lv_at hl 1 rfl) ?_
              refine lv_bipush (v := 14) hx hb dX11_about_52 (by decide) ?_
              refine lv_icmp_ne (tgt := 61) hx hb dX11_about_54 (by decide) (fun h9 => ?_) (fun h9 => ?_)
              · refine lv_iconst (v := 0) hx hb dX11_about_61 (by decide) ?_
                refine lv_istore_n (lv' := [(2, .int 0), (0, .ref a0), (1, .int p1)]) hx hb dX11_about_62 rfl hl (by decide) rfl (fun ls hl => ?_)
                refine lv_iload_n hx hb dX11_about_63 rfl (lv_at hl 0 rfl) ?_
                refine lv_if_eq (tgt := 71) hx hb dX11_about_64 (by decide) (fun _ => ?_) (fun c9 => absurd c9 (by decide))
                refine lv_iconst (v := (-1)) hx hb dX11_about_71 (by decide) ?_
                have hP9 := hP.sub (ws' := []) [] rfl
                have hD9 := hD.sub (ws' := []) [] (by decide) rfl
                have hK9 := hK.sub (tys' := []) [] rfl
                refine W.widen (k := 0) (n := 0) (Nat.le_of_ble_eq_true rfl) (Nat.le_of_ble_eq_true rfl) ?_
                exact W.iret (v := (-1)) hx hb hr (fun t ht hW => ⟨⟨(-1), (), rfl, (by revert h1 h2 h3 h4 h7 h8 h9; simp only [fAbo, Int32.lt_iff_toInt_lt, Int32.le_iff_toInt_le, ← Int32.toInt_inj, z0, z1, z2, z3, z10, z11, z12, z13, z14, z20000, zm1, z50]; intros; first | rfl | decide | (split <;> first | rfl | (exfalso; omega))), by rw [ht]; exact hP9, va_K.moved hW.alike hK9, hD9⟩, hS.F ht⟩) hS.2.2 dX11_about_72
              · refine lv_iconst (v := 1) hx hb dX11_about_57 (by decide) ?_
                refine lv_goto (tgt := 62) hx hb dX11_about_58 (by decide) ?_
                refine lv_istore_n (lv' := [(2, .int 1), (0, .ref a0), (1, .int p1)]) hx hb dX11_about_62 rfl hl (by decide) rfl (fun ls hl => ?_)
                refine lv_iload_n hx hb dX11_about_63 rfl (lv_at hl 0 rfl) ?_
                refine lv_if_eq (tgt := 71) hx hb dX11_about_64 (by decide) (fun c9 => absurd c9 (by decide)) (fun _ => ?_)
                refine lv_iconst (v := 0) hx hb dX11_about_67 (by decide) ?_
                refine lv_goto (tgt := 72) hx hb dX11_about_68 (by decide) ?_
                have hP9 := hP.sub (ws' := []) [] rfl
                have hD9 := hD.sub (ws' := []) [] (by decide) rfl
                have hK9 := hK.sub (tys' := []) [] rfl
                refine W.widen (k := 0) (n := 0) (Nat.le_of_ble_eq_true rfl) (Nat.le_of_ble_eq_true rfl) ?_
                exact W.iret (v := 0) hx hb hr (fun t ht hW => ⟨⟨0, (), rfl, (by revert h1 h2 h3 h4 h7 h8 h9; simp only [fAbo, Int32.lt_iff_toInt_lt, Int32.le_iff_toInt_le, ← Int32.toInt_inj, z0, z1, z2, z3, z10, z11, z12, z13, z14, z20000, zm1, z50]; intros; first | rfl | decide | (split <;> first | rfl | (exfalso; omega))), by rw [ht]; exact hP9, va_K.moved hW.alike hK9, hD9⟩, hS.F ht⟩) hS.2.2 dX11_about_72
    · refine lv_aload_n hx hb dX11_about_15 rfl (lv_at hl 0 rfl) ?_
      refine va_get (D := (dC, dI)) (ci := 11) (v := .int 0) (C := RX11) (T := TX11) (N := 15) hx hb hts iX11 hown hK hP 0 rfl rfl 10 (by decide) (hts _ k268) (fun _ h9 => h9) rfl dX11_about_16 ?_
      have hP9 := hP.sub (ws' := []) [] rfl
      have hD9 := hD.sub (ws' := []) [] (by decide) rfl
      have hK9 := hK.sub (tys' := []) [] rfl
      refine W.widen (k := 0) (n := 0) (Nat.le_of_ble_eq_true rfl) (Nat.le_of_ble_eq_true rfl) ?_
      exact W.iret (v := 0) hx hb hr (fun t ht hW => ⟨⟨0, (), rfl, (by revert h1 h2; simp only [fAbo, Int32.lt_iff_toInt_lt, Int32.le_iff_toInt_le, ← Int32.toInt_inj, z0, z1, z2, z3, z10, z11, z12, z13, z14, z20000, zm1, z50]; intros; first | rfl | decide | (split <;> first | rfl | (exfalso; omega))), by rw [ht]; exact hP9, va_K.moved hW.alike hK9, hD9⟩, hS.F ht⟩) hS.2.2 dX11_about_19
  · refine lv_aload_n hx hb dX11_about_5 rfl (lv_at hl 0 rfl) ?_
    refine va_get (D := (dC, dI)) (ci := 11) (v := .int 0) (C := RX11) (T := TX11) (N := 15) hx hb hts iX11 hown hK hP 0 rfl rfl 9 (by decide) (hts _ k180) (fun _ h9 => h9) rfl dX11_about_6 ?_
    have hP9 := hP.sub (ws' := []) [] rfl
    have hD9 := hD.sub (ws' := []) [] (by decide) rfl
    have hK9 := hK.sub (tys' := []) [] rfl
    refine W.widen (k := 0) (n := 0) (Nat.le_of_ble_eq_true rfl) (Nat.le_of_ble_eq_true rfl) ?_
    exact W.iret (v := 0) hx hb hr (fun t ht hW => ⟨⟨0, (), rfl, (by revert h1; simp only [fAbo, Int32.lt_iff_toInt_lt, Int32.le_iff_toInt_le, ← Int32.toInt_inj, z0, z1, z2, z3, z10, z11, z12, z13, z14, z20000, zm1, z50]; intros; first | rfl | decide | (split <;> first | rfl | (exfalso; omega))), by rw [ht]; exact hP9, va_K.moved hW.alike hK9, hD9⟩, hS.F ht⟩) hS.2.2 dX11_about_9
set_option maxHeartbeats 4000000 in
set_option maxRecDepth 100000 in
theorem c_X11_clock_1 (l : Launch) (dC : Nat → ClassId) (dI : Nat → Nat → Nat) (a0 : Nat) (a1 : Nat) (a2 : Nat) (a3 : Nat) (a4 : Nat) (a5 : Nat) (a6 : Nat) (a7 : Nat) (a8 : Nat) (a9 : Nat) (a10 : Nat) (a11 : Nat) (a12 : Nat) (a13 : Nat) (a14 : Nat) (a15 : Nat) (a16 : Nat) (sz : Nat) : Met l yX11_clock (Cond.code yX11_clock cX11_clock 1 (some .long) :: wB) { frames := 0, cells := 0, slots := 0, locals := 0 } (va_Pc [.ref a0] (pX (dC, dI) sz [(a0, .inr (11, [.ref a1, .ref a2, .ref a3, .ref a4, .ref a5, .ref a6, .ref a7, .ref a8, .ref a9, .int 0, .int 0, .int 0, .int (-1), .int 0, .int (-1)])), (a8, .inr (2, [.ref a10, .ref a11, .ref a12, .ref a13, .ref a14, .ref a15, .ref a16, .int 0, .int 0, .int 0, .int 0, .int 0, .int 0, .int 0, .int 0, .long 0, .int (-1), .int 0, .int 0, .int 0]))] [])) (va_Ql (fun (r : Int64) (z : Unit) => r = (-1)) (fun z t => qX (dC, dI) [] [] (va_A [(a0, .inr (11, [.ref a1, .ref a2, .ref a3, .ref a4, .ref a5, .ref a6, .ref a7, .ref a8, .ref a9, .int 0, .int 0, .int 0, .int (-1), .int 0, .int (-1)])), (a8, .inr (2, [.ref a10, .ref a11, .ref a12, .ref a13, .ref a14, .ref a15, .ref a16, .int 0, .int 0, .int 0, .int 0, .int 0, .int 0, .int 0, .int 0, .long 0, .int (-1), .int 0, .int 0, .int 0]))] sz) t) (va_A [(a0, .inr (11, [.ref a1, .ref a2, .ref a3, .ref a4, .ref a5, .ref a6, .ref a7, .ref a8, .ref a9, .int 0, .int 0, .int 0, .int (-1), .int 0, .int (-1)])), (a8, .inr (2, [.ref a10, .ref a11, .ref a12, .ref a13, .ref a14, .ref a15, .ref a16, .int 0, .int 0, .int 0, .int 0, .int 0, .int 0, .int 0, .int 0, .long 0, .int (-1), .int 0, .int 0, .int 0]))] sz)) 0 0 (va_A [(a0, .inr (11, [.ref a1, .ref a2, .ref a3, .ref a4, .ref a5, .ref a6, .ref a7, .ref a8, .ref a9, .int 0, .int 0, .int 0, .int (-1), .int 0, .int (-1)])), (a8, .inr (2, [.ref a10, .ref a11, .ref a12, .ref a13, .ref a14, .ref a15, .ref a16, .int 0, .int 0, .int 0, .int 0, .int 0, .int 0, .int 0, .int 0, .long 0, .int (-1), .int 0, .int 0, .int 0]))] sz) := by
  refine Met.ofW (cc := cX11_clock) (maxL := 1) (ret := (some .long)) (by decide) rfl ?_
  intro p e s m args below meth c s₁ B hml hv
  obtain ⟨rfl, hsz, hP, hK, hD0, hN⟩ := hv
  have hx := B.exec
  have hb := B.bytes
  have hr := B.returns
  have hts : ∀ w ∈ wB, w.before _ s = true := fun w h => atoms_spec (ws := Cond.code yX11_clock cX11_clock 1 (some .long) :: wB) B.pre w (List.mem_cons_of_mem _ h)
  have hown : s.vm.findClass RX11 = some m.cls := findClass_of_methodNamed B.named
  have hlocks := B.notSynchronized
  subst hsz
  have hD := hD0.self (sz := s.heap.size)
  generalize hAe : va_A [(a0, .inr (11, [.ref a1, .ref a2, .ref a3, .ref a4, .ref a5, .ref a6, .ref a7, .ref a8, .ref a9, .int 0, .int 0, .int 0, .int (-1), .int 0, .int (-1)])), (a8, .inr (2, [.ref a10, .ref a11, .ref a12, .ref a13, .ref a14, .ref a15, .ref a16, .int 0, .int 0, .int 0, .int 0, .int 0, .int 0, .int 0, .int 0, .long 0, .int (-1), .int 0, .int 0, .int 0]))] s.heap.size = A at hD ⊢
  have hA : ∀ q : Nat, s.heap.size ≤ q → A q := fun q h => by rw [← hAe]; exact Or.inr h
  have hS : va_S A s.heap s.heap [] := va_S.rf
  have hP : va_P (dC, dI) vwCl [(a0, .inr (11, [.ref a1, .ref a2, .ref a3, .ref a4, .ref a5, .ref a6, .ref a7, .ref a8, .ref a9, .int 0, .int 0, .int 0, .int (-1), .int 0, .int (-1)])), (a8, .inr (2, [.ref a10, .ref a11, .ref a12, .ref a13, .ref a14, .ref a15, .ref a16, .int 0, .int 0, .int 0, .int 0, .int 0, .int 0, .int 0, .int 0, .long 0, .int (-1), .int 0, .int 0, .int 0]))] s.heap := hP
  have hl := lv_entry ([.ref a0]) (n := 1) (Nat.le_of_ble_eq_true rfl)
  rw [lg_entry_eq]
  generalize (lg_sl ([.ref a0]) ++ List.replicate (1 - (lg_sl ([.ref a0])).length) Slot.unset).toArray = ls at hl ⊢
  have hl : lv_has ls 1 [(0, .ref a0)] := hl
  refine lv_aload_n hx hb dX11_clock_0 rfl (lv_at hl 0 rfl) ?_
  refine va_get (D := (dC, dI)) (ci := 11) (v := .ref a8) (C := RX11) (T := TX11) (N := 15) hx hb hts iX11 hown hK hP 0 rfl rfl 7 (by decide) (hts _ k176) (fun _ h9 => h9) rfl dX11_clock_1 ?_
  refine va_get (D := (dC, dI)) (ci := 2) (v := .int 0) (C := RX2) (T := TX2) (N := 20) hx hb hts iX2 hown hK hP 1 rfl rfl 7 (by decide) (hts _ k267) (fun _ h9 => h9) rfl dX11_clock_4 ?_
  refine lv_if_ne (tgt := 16) hx hb dX11_clock_7 (by decide) (fun c9 => absurd c9 (by decide)) (fun _ => ?_)
  refine lv_ldc2 (own := RX11) (v := (-1)) hx hb hown (hts _ k269) dX11_clock_10 ?_
  refine lv_goto (tgt := 23) hx hb dX11_clock_13 (by decide) ?_
  have hP9 := hP.sub (ws' := []) [] rfl
  have hD9 := hD.sub (ws' := []) [] (by decide) rfl
  have hK9 := hK.sub (tys' := []) [] rfl
  refine W.widen (k := 0) (n := 0) (Nat.le_of_ble_eq_true rfl) (Nat.le_of_ble_eq_true rfl) ?_
  exact W.lret (v := (-1)) hx hb hr (fun t ht hW => ⟨⟨(-1), (), rfl, rfl, by rw [ht]; exact hP9, va_K.moved hW.alike hK9, hD9⟩, hS.F ht⟩) hS.2.2 dX11_clock_23
set_option maxHeartbeats 4000000 in
set_option maxRecDepth 100000 in
theorem c_X11_out_1 (l : Launch) (dC : Nat → ClassId) (dI : Nat → Nat → Nat) (a0 : Nat) (p1 : Int32) (a2 : Nat) (a3 : Nat) (a4 : Nat) (a5 : Nat) (a6 : Nat) (a7 : Nat) (a8 : Nat) (a9 : Nat) (a10 : Nat) (a11 : Nat) (a12 : Nat) (a13 : Nat) (a14 : Nat) (a15 : Nat) (a16 : Nat) (a17 : Nat) (sz : Nat) : Met l yX11_out (Cond.code yX11_out cX11_out 2 (some .int) :: wB) { frames := 0, cells := 0, slots := 0, locals := 0 } (va_Pc [.ref a0, .int p1] (pX (dC, dI) sz [(a0, .inr (11, [.ref a2, .ref a3, .ref a4, .ref a5, .ref a6, .ref a7, .ref a8, .ref a9, .ref a10, .int 0, .int 0, .int 0, .int (-1), .int 0, .int (-1)])), (a9, .inr (2, [.ref a11, .ref a12, .ref a13, .ref a14, .ref a15, .ref a16, .ref a17, .int 0, .int 0, .int 0, .int 0, .int 0, .int 0, .int 0, .int 0, .long 0, .int (-1), .int 0, .int 0, .int 0]))] [])) (va_Qi (fun (r : Int32) (z : Unit) => r = (-1)) (fun z t => qX (dC, dI) [] [] (va_A [(a0, .inr (11, [.ref a2, .ref a3, .ref a4, .ref a5, .ref a6, .ref a7, .ref a8, .ref a9, .ref a10, .int 0, .int 0, .int 0, .int (-1), .int 0, .int (-1)])), (a9, .inr (2, [.ref a11, .ref a12, .ref a13, .ref a14, .ref a15, .ref a16, .ref a17, .int 0, .int 0, .int 0, .int 0, .int 0, .int 0, .int 0, .int 0, .long 0, .int (-1), .int 0, .int 0, .int 0]))] sz) t) (va_A [(a0, .inr (11, [.ref a2, .ref a3, .ref a4, .ref a5, .ref a6, .ref a7, .ref a8, .ref a9, .ref a10, .int 0, .int 0, .int 0, .int (-1), .int 0, .int (-1)])), (a9, .inr (2, [.ref a11, .ref a12, .ref a13, .ref a14, .ref a15, .ref a16, .ref a17, .int 0, .int 0, .int 0, .int 0, .int 0, .int 0, .int 0, .int 0, .long 0, .int (-1), .int 0, .int 0, .int 0]))] sz)) 0 0 (va_A [(a0, .inr (11, [.ref a2, .ref a3, .ref a4, .ref a5, .ref a6, .ref a7, .ref a8, .ref a9, .ref a10, .int 0, .int 0, .int 0, .int (-1), .int 0, .int (-1)])), (a9, .inr (2, [.ref a11, .ref a12, .ref a13, .ref a14, .ref a15, .ref a16, .ref a17, .int 0, .int 0, .int 0, .int 0, .int 0, .int 0, .int 0, .int 0, .long 0, .int (-1), .int 0, .int 0, .int 0]))] sz) := by
  refine Met.ofW (cc := cX11_out) (maxL := 2) (ret := (some .int)) (by decide) rfl ?_
  intro p e s m args below meth c s₁ B hml hv
  obtain ⟨rfl, hsz, hP, hK, hD0, hN⟩ := hv
  have hx := B.exec
  have hb := B.bytes
  have hr := B.returns
  have hts : ∀ w ∈ wB, w.before _ s = true := fun w h => atoms_spec (ws := Cond.code yX11_out cX11_out 2 (some .int) :: wB) B.pre w (List.mem_cons_of_mem _ h)
  have hown : s.vm.findClass RX11 = some m.cls := findClass_of_methodNamed B.named
  have hlocks := B.notSynchronized
  subst hsz
  have hD := hD0.self (sz := s.heap.size)
  generalize hAe : va_A [(a0, .inr (11, [.ref a2, .ref a3, .ref a4, .ref a5, .ref a6, .ref a7, .ref a8, .ref a9, .ref a10, .int 0, .int 0, .int 0, .int (-1), .int 0, .int (-1)])), (a9, .inr (2, [.ref a11, .ref a12, .ref a13, .ref a14, .ref a15, .ref a16, .ref a17, .int 0, .int 0, .int 0, .int 0, .int 0, .int 0, .int 0, .int 0, .long 0, .int (-1), .int 0, .int 0, .int 0]))] s.heap.size = A at hD ⊢
  have hA : ∀ q : Nat, s.heap.size ≤ q → A q := fun q h => by rw [← hAe]; exact Or.inr h
  have hS : va_S A s.heap s.heap [] := va_S.rf
  have hP : va_P (dC, dI) vwCl [(a0, .inr (11, [.ref a2, .ref a3, .ref a4, .ref a5, .ref a6, .ref a7, .ref a8, .ref a9, .ref a10, .int 0, .int 0, .int 0, .int (-1), .int 0, .int (-1)])), (a9, .inr (2, [.ref a11, .ref a12, .ref a13, .ref a14, .ref a15, .ref a16, .ref a17, .int 0, .int 0, .int 0, .int 0, .int 0, .int 0, .int 0, .int 0, .long 0, .int (-1), .int 0, .int 0, .int 0]))] s.heap := hP
  have hl := lv_entry ([.ref a0, .int p1]) (n := 2) (Nat.le_of_ble_eq_true rfl)
  rw [lg_entry_eq]
  generalize (lg_sl ([.ref a0, .int p1]) ++ List.replicate (2 - (lg_sl ([.ref a0, .int p1])).length) Slot.unset).toArray = ls at hl ⊢
  have hl : lv_has ls 2 [(0, .ref a0), (1, .int p1)] := hl
  refine lv_iload_n hx hb dX11_out_0 rfl (lv_at hl 1 rfl) ?_
  refine lv_if_lt (tgt := 22) hx hb dX11_out_1 (by decide) (fun h1 => ?_) (fun h1 => ?_)
  · refine lv_iconst (v := (-1)) hx hb dX11_out_22 (by decide) ?_
    have hP9 := hP.sub (ws' := []) [] rfl
    have hD9 := hD.sub (ws' := []) [] (by decide) rfl
    have hK9 := hK.sub (tys' := []) [] rfl
    refine W.widen (k := 0) (n := 0) (Nat.le_of_ble_eq_true rfl) (Nat.le_of_ble_eq_true rfl) ?_
    exact W.iret (v := (-1)) hx hb hr (fun t ht hW => ⟨⟨(-1), (), rfl, rfl, by rw [ht]; exact hP9, va_K.moved hW.alike hK9, hD9⟩, hS.F ht⟩) hS.2.2 dX11_out_23
  · refine lv_iload_n hx hb dX11_out_4 rfl (lv_at hl 1 rfl) ?_
    refine lv_aload_n hx hb dX11_out_5 rfl (lv_at hl 0 rfl) ?_
    refine va_get (D := (dC, dI)) (ci := 11) (v := .ref a9) (C := RX11) (T := TX11) (N := 15) hx hb hts iX11 hown hK hP 0 rfl rfl 7 (by decide) (hts _ k176) (fun _ h9 => h9) rfl dX11_out_6 ?_
    refine va_get (D := (dC, dI)) (ci := 2) (v := .int 0) (C := RX2) (T := TX2) (N := 20) hx hb hts iX2 hown hK hP 1 rfl rfl 8 (by decide) (hts _ k270) (fun _ h9 => h9) rfl dX11_out_9 ?_
    refine lv_icmp_ge (tgt := 22) hx hb dX11_out_12 (by decide) (fun h2 => ?_) (fun h2 => ?_)
    · refine lv_iconst (v := (-1)) hx hb dX11_out_22 (by decide) ?_
      have hP9 := hP.sub (ws' := []) [] rfl
      have hD9 := hD.sub (ws' := []) [] (by decide) rfl
      have hK9 := hK.sub (tys' := []) [] rfl
      refine W.widen (k := 0) (n := 0) (Nat.le_of_ble_eq_true rfl) (Nat.le_of_ble_eq_true rfl) ?_
      exact W.iret (v := (-1)) hx hb hr (fun t ht hW => ⟨⟨(-1), (), rfl, rfl, by rw [ht]; exact hP9, va_K.moved hW.alike hK9, hD9⟩, hS.F ht⟩) hS.2.2 dX11_out_23
    · exact False.elim (by revert h1 h2; simp only [Int32.lt_iff_toInt_lt, Int32.le_iff_toInt_le, ← Int32.toInt_inj, z0, z1, z2, z3, z10, z11, z12, z13, z14, z20000, zm1, z50]; intros; omega)
set_option maxHeartbeats 4000000 in
set_option maxRecDepth 100000 in
theorem c_X11_freeze_1 (l : Launch) (dC : Nat → ClassId) (dI : Nat → Nat → Nat) (a0 : Nat) (a1 : Nat) (a2 : Nat) (a3 : Nat) (a4 : Nat) (a5 : Nat) (a6 : Nat) (a7 : Nat) (a8 : Nat) (a9 : Nat) (a10 : Nat) (a11 : Nat) (a12 : Nat) (a13 : Nat) (a14 : Nat) (a15 : Nat) (a16 : Nat) (sz : Nat) : Met l yX11_freeze (Cond.code yX11_freeze cX11_freeze 1 (some .int) :: wB) { frames := 0, cells := 0, slots := 0, locals := 0 } (va_Pc [.ref a0] (pX (dC, dI) sz [(a0, .inr (11, [.ref a1, .ref a2, .ref a3, .ref a4, .ref a5, .ref a6, .ref a7, .ref a8, .ref a9, .int 0, .int 0, .int 0, .int (-1), .int 0, .int (-1)])), (a8, .inr (2, [.ref a10, .ref a11, .ref a12, .ref a13, .ref a14, .ref a15, .ref a16, .int 0, .int 0, .int 0, .int 0, .int 0, .int 0, .int 0, .int 0, .long 0, .int (-1), .int 0, .int 0, .int 0]))] [])) (va_Qi (fun (r : Int32) (z : Unit) => r = (-1)) (fun z t => qX (dC, dI) [] [] (va_A [(a0, .inr (11, [.ref a1, .ref a2, .ref a3, .ref a4, .ref a5, .ref a6, .ref a7, .ref a8, .ref a9, .int 0, .int 0, .int 0, .int (-1), .int 0, .int (-1)])), (a8, .inr (2, [.ref a10, .ref a11, .ref a12, .ref a13, .ref a14, .ref a15, .ref a16, .int 0, .int 0, .int 0, .int 0, .int 0, .int 0, .int 0, .int 0, .long 0, .int (-1), .int 0, .int 0, .int 0]))] sz) t) (va_A [(a0, .inr (11, [.ref a1, .ref a2, .ref a3, .ref a4, .ref a5, .ref a6, .ref a7, .ref a8, .ref a9, .int 0, .int 0, .int 0, .int (-1), .int 0, .int (-1)])), (a8, .inr (2, [.ref a10, .ref a11, .ref a12, .ref a13, .ref a14, .ref a15, .ref a16, .int 0, .int 0, .int 0, .int 0, .int 0, .int 0, .int 0, .int 0, .long 0, .int (-1), .int 0, .int 0, .int 0]))] sz)) 0 0 (va_A [(a0, .inr (11, [.ref a1, .ref a2, .ref a3, .ref a4, .ref a5, .ref a6, .ref a7, .ref a8, .ref a9, .int 0, .int 0, .int 0, .int (-1), .int 0, .int (-1)])), (a8, .inr (2, [.ref a10, .ref a11, .ref a12, .ref a13, .ref a14, .ref a15, .ref a16, .int 0, .int 0, .int 0, .int 0, .int 0, .int 0, .int 0, .int 0, .long 0, .int (-1), .int 0, .int 0, .int 0]))] sz) := by
  refine Met.ofW (cc := cX11_freeze) (maxL := 1) (ret := (some .int)) (by decide) rfl ?_
  intro p e s m args below meth c s₁ B hml hv
  obtain ⟨rfl, hsz, hP, hK, hD0, hN⟩ := hv
  have hx := B.exec
  have hb := B.bytes
  have hr := B.returns
  have hts : ∀ w ∈ wB, w.before _ s = true := fun w h => atoms_spec (ws := Cond.code yX11_freeze cX11_freeze 1 (some .int) :: wB) B.pre w (List.mem_cons_of_mem _ h)
  have hown : s.vm.findClass RX11 = some m.cls := findClass_of_methodNamed B.named
  have hlocks := B.notSynchronized
  subst hsz
  have hD := hD0.self (sz := s.heap.size)
  generalize hAe : va_A [(a0, .inr (11, [.ref a1, .ref a2, .ref a3, .ref a4, .ref a5, .ref a6, .ref a7, .ref a8, .ref a9, .int 0, .int 0, .int 0, .int (-1), .int 0, .int (-1)])), (a8, .inr (2, [.ref a10, .ref a11, .ref a12, .ref a13, .ref a14, .ref a15, .ref a16, .int 0, .int 0, .int 0, .int 0, .int 0, .int 0, .int 0, .int 0, .long 0, .int (-1), .int 0, .int 0, .int 0]))] s.heap.size = A at hD ⊢
  have hA : ∀ q : Nat, s.heap.size ≤ q → A q := fun q h => by rw [← hAe]; exact Or.inr h
  have hS : va_S A s.heap s.heap [] := va_S.rf
  have hP : va_P (dC, dI) vwCl [(a0, .inr (11, [.ref a1, .ref a2, .ref a3, .ref a4, .ref a5, .ref a6, .ref a7, .ref a8, .ref a9, .int 0, .int 0, .int 0, .int (-1), .int 0, .int (-1)])), (a8, .inr (2, [.ref a10, .ref a11, .ref a12, .ref a13, .ref a14, .ref a15, .ref a16, .int 0, .int 0, .int 0, .int 0, .int 0, .int 0, .int 0, .int 0, .long 0, .int (-1), .int 0, .int 0, .int 0]))] s.heap := hP
  have hl := lv_entry ([.ref a0]) (n := 1) (Nat.le_of_ble_eq_true rfl)
  rw [lg_entry_eq]
  generalize (lg_sl ([.ref a0]) ++ List.replicate (1 - (lg_sl ([.ref a0])).length) Slot.unset).toArray = ls at hl ⊢
  have hl : lv_has ls 1 [(0, .ref a0)] := hl
  refine lv_aload_n hx hb dX11_freeze_0 rfl (lv_at hl 0 rfl) ?_
  refine va_get (D := (dC, dI)) (ci := 11) (v := .ref a8) (C := RX11) (T := TX11) (N := 15) hx hb hts iX11 hown hK hP 0 rfl rfl 7 (by decide) (hts _ k176) (fun _ h9 => h9) rfl dX11_freeze_1 ?_
  refine va_get (D := (dC, dI)) (ci := 2) (v := .int 0) (C := RX2) (T := TX2) (N := 20) hx hb hts iX2 hown hK hP 1 rfl rfl 7 (by decide) (hts _ k267) (fun _ h9 => h9) rfl dX11_freeze_4 ?_
  refine lv_if_eq (tgt := 20) hx hb dX11_freeze_7 (by decide) (fun _ => ?_) (fun c9 => absurd c9 (by decide))
  refine lv_iconst (v := (-1)) hx hb dX11_freeze_20 (by decide) ?_
  have hP9 := hP.sub (ws' := []) [] rfl
  have hD9 := hD.sub (ws' := []) [] (by decide) rfl
  have hK9 := hK.sub (tys' := []) [] rfl
  refine W.widen (k := 0) (n := 0) (Nat.le_of_ble_eq_true rfl) (Nat.le_of_ble_eq_true rfl) ?_
  exact W.iret (v := (-1)) hx hb hr (fun t ht hW => ⟨⟨(-1), (), rfl, rfl, by rw [ht]; exact hP9, va_K.moved hW.alike hK9, hD9⟩, hS.F ht⟩) hS.2.2 dX11_freeze_21
set_option maxHeartbeats 4000000 in
set_option maxRecDepth 100000 in
theorem c_X11_image_1 (l : Launch) (dC : Nat → ClassId) (dI : Nat → Nat → Nat) (a0 : Nat) (p1 : Int32) (a2 : Nat) (a3 : Nat) (a4 : Nat) (a5 : Nat) (a6 : Nat) (a7 : Nat) (a8 : Nat) (a9 : Nat) (a10 : Nat) (sz : Nat) : Met l yX11_image (Cond.code yX11_image cX11_image 2 (some .int) :: wB) { frames := 0, cells := 0, slots := 0, locals := 0 } (va_Pc [.ref a0, .int p1] (pX (dC, dI) sz [(a0, .inr (11, [.ref a2, .ref a3, .ref a4, .ref a5, .ref a6, .ref a7, .ref a8, .ref a9, .ref a10, .int 0, .int 0, .int 0, .int (-1), .int 0, .int (-1)]))] [])) (va_Qi (fun (r : Int32) (z : Unit) => r = (-1)) (fun z t => qX (dC, dI) [] [] (va_A [(a0, .inr (11, [.ref a2, .ref a3, .ref a4, .ref a5, .ref a6, .ref a7, .ref a8, .ref a9, .ref a10, .int 0, .int 0, .int 0, .int (-1), .int 0, .int (-1)]))] sz) t) (va_A [(a0, .inr (11, [.ref a2, .ref a3, .ref a4, .ref a5, .ref a6, .ref a7, .ref a8, .ref a9, .ref a10, .int 0, .int 0, .int 0, .int (-1), .int 0, .int (-1)]))] sz)) 0 0 (va_A [(a0, .inr (11, [.ref a2, .ref a3, .ref a4, .ref a5, .ref a6, .ref a7, .ref a8, .ref a9, .ref a10, .int 0, .int 0, .int 0, .int (-1), .int 0, .int (-1)]))] sz) := by
  refine Met.ofW (cc := cX11_image) (maxL := 2) (ret := (some .int)) (by decide) rfl ?_
  intro p e s m args below meth c s₁ B hml hv
  obtain ⟨rfl, hsz, hP, hK, hD0, hN⟩ := hv
  have hx := B.exec
  have hb := B.bytes
  have hr := B.returns
  have hts : ∀ w ∈ wB, w.before _ s = true := fun w h => atoms_spec (ws := Cond.code yX11_image cX11_image 2 (some .int) :: wB) B.pre w (List.mem_cons_of_mem _ h)
  have hown : s.vm.findClass RX11 = some m.cls := findClass_of_methodNamed B.named
  have hlocks := B.notSynchronized
  subst hsz
  have hD := hD0.self (sz := s.heap.size)
  generalize hAe : va_A [(a0, .inr (11, [.ref a2, .ref a3, .ref a4, .ref a5, .ref a6, .ref a7, .ref a8, .ref a9, .ref a10, .int 0, .int 0, .int 0, .int (-1), .int 0, .int (-1)]))] s.heap.size = A at hD ⊢
  have hA : ∀ q : Nat, s.heap.size ≤ q → A q := fun q h => by rw [← hAe]; exact Or.inr h
  have hS : va_S A s.heap s.heap [] := va_S.rf
  have hP : va_P (dC, dI) vwCl [(a0, .inr (11, [.ref a2, .ref a3, .ref a4, .ref a5, .ref a6, .ref a7, .ref a8, .ref a9, .ref a10, .int 0, .int 0, .int 0, .int (-1), .int 0, .int (-1)]))] s.heap := hP
  have hl := lv_entry ([.ref a0, .int p1]) (n := 2) (Nat.le_of_ble_eq_true rfl)
  rw [lg_entry_eq]
  generalize (lg_sl ([.ref a0, .int p1]) ++ List.replicate (2 - (lg_sl ([.ref a0, .int p1])).length) Slot.unset).toArray = ls at hl ⊢
  have hl : lv_has ls 2 [(0, .ref a0), (1, .int p1)] := hl
  refine lv_iload_n hx hb dX11_image_0 rfl (lv_at hl 1 rfl) ?_
  refine lv_if_lt (tgt := 12) hx hb dX11_image_1 (by decide) (fun h1 => ?_) (fun h1 => ?_)
  · refine lv_iconst (v := (-1)) hx hb dX11_image_12 (by decide) ?_
    refine lv_goto (tgt := 26) hx hb dX11_image_13 (by decide) ?_
    have hP9 := hP.sub (ws' := []) [] rfl
    have hD9 := hD.sub (ws' := []) [] (by decide) rfl
    have hK9 := hK.sub (tys' := []) [] rfl
    refine W.widen (k := 0) (n := 0) (Nat.le_of_ble_eq_true rfl) (Nat.le_of_ble_eq_true rfl) ?_
    exact W.iret (v := (-1)) hx hb hr (fun t ht hW => ⟨⟨(-1), (), rfl, rfl, by rw [ht]; exact hP9, va_K.moved hW.alike hK9, hD9⟩, hS.F ht⟩) hS.2.2 dX11_image_26
  · refine lv_iload_n hx hb dX11_image_4 rfl (lv_at hl 1 rfl) ?_
    refine lv_aload_n hx hb dX11_image_5 rfl (lv_at hl 0 rfl) ?_
    refine va_get (D := (dC, dI)) (ci := 11) (v := .int 0) (C := RX11) (T := TX11) (N := 15) hx hb hts iX11 hown hK hP 0 rfl rfl 10 (by decide) (hts _ k268) (fun _ h9 => h9) rfl dX11_image_6 ?_
    refine lv_icmp_lt (tgt := 16) hx hb dX11_image_9 (by decide) (fun h2 => ?_) (fun h2 => ?_)
    · exact False.elim (by revert h1 h2; simp only [Int32.lt_iff_toInt_lt, Int32.le_iff_toInt_le, ← Int32.toInt_inj, z0, z1, z2, z3, z10, z11, z12, z13, z14, z20000, zm1, z50]; intros; omega)
    · refine lv_iconst (v := (-1)) hx hb dX11_image_12 (by decide) ?_
      refine lv_goto (tgt := 26) hx hb dX11_image_13 (by decide) ?_
      have hP9 := hP.sub (ws' := []) [] rfl
      have hD9 := hD.sub (ws' := []) [] (by decide) rfl
      have hK9 := hK.sub (tys' := []) [] rfl
      refine W.widen (k := 0) (n := 0) (Nat.le_of_ble_eq_true rfl) (Nat.le_of_ble_eq_true rfl) ?_
      exact W.iret (v := (-1)) hx hb hr (fun t ht hW => ⟨⟨(-1), (), rfl, rfl, by rw [ht]; exact hP9, va_K.moved hW.alike hK9, hD9⟩, hS.F ht⟩) hS.2.2 dX11_image_26
set_option maxHeartbeats 4000000 in
set_option maxRecDepth 100000 in
theorem c_X11_take_1 (l : Launch) (dC : Nat → ClassId) (dI : Nat → Nat → Nat) (a0 : Nat) (a1 : Nat) (a2 : Nat) (a3 : Nat) (a4 : Nat) (a5 : Nat) (a6 : Nat) (a7 : Nat) (a8 : Nat) (a9 : Nat) (sz : Nat) : Met l yX11_take (Cond.code yX11_take cX11_take 1 (some .int) :: wB) { frames := 0, cells := 0, slots := 0, locals := 0 } (va_Pc [.ref a0] (pX (dC, dI) sz [(a0, .inr (11, [.ref a1, .ref a2, .ref a3, .ref a4, .ref a5, .ref a6, .ref a7, .ref a8, .ref a9, .int 0, .int 0, .int 0, .int (-1), .int 0, .int (-1)]))] [])) (va_Qi (fun (r : Int32) (z : Unit) => r = (-1)) (fun z t => qX (dC, dI) [] [] (va_A [(a0, .inr (11, [.ref a1, .ref a2, .ref a3, .ref a4, .ref a5, .ref a6, .ref a7, .ref a8, .ref a9, .int 0, .int 0, .int 0, .int (-1), .int 0, .int (-1)]))] sz) t) (va_A [(a0, .inr (11, [.ref a1, .ref a2, .ref a3, .ref a4, .ref a5, .ref a6, .ref a7, .ref a8, .ref a9, .int 0, .int 0, .int 0, .int (-1), .int 0, .int (-1)]))] sz)) 0 0 (va_A [(a0, .inr (11, [.ref a1, .ref a2, .ref a3, .ref a4, .ref a5, .ref a6, .ref a7, .ref a8, .ref a9, .int 0, .int 0, .int 0, .int (-1), .int 0, .int (-1)]))] sz) := by
  refine Met.ofW (cc := cX11_take) (maxL := 1) (ret := (some .int)) (by decide) rfl ?_
  intro p e s m args below meth c s₁ B hml hv
  obtain ⟨rfl, hsz, hP, hK, hD0, hN⟩ := hv
  have hx := B.exec
  have hb := B.bytes
  have hr := B.returns
  have hts : ∀ w ∈ wB, w.before _ s = true := fun w h => atoms_spec (ws := Cond.code yX11_take cX11_take 1 (some .int) :: wB) B.pre w (List.mem_cons_of_mem _ h)
  have hown : s.vm.findClass RX11 = some m.cls := findClass_of_methodNamed B.named
  have hlocks := B.notSynchronized
  subst hsz
  have hD := hD0.self (sz := s.heap.size)
  generalize hAe : va_A [(a0, .inr (11, [.ref a1, .ref a2, .ref a3, .ref a4, .ref a5, .ref a6, .ref a7, .ref a8, .ref a9, .int 0, .int 0, .int 0, .int (-1), .int 0, .int (-1)]))] s.heap.size = A at hD ⊢
  have hA : ∀ q : Nat, s.heap.size ≤ q → A q := fun q h => by rw [← hAe]; exact Or.inr h
  have hS : va_S A s.heap s.heap [] := va_S.rf
  have hP : va_P (dC, dI) vwCl [(a0, .inr (11, [.ref a1, .ref a2, .ref a3, .ref a4, .ref a5, .ref a6, .ref a7, .ref a8, .ref a9, .int 0, .int 0, .int 0, .int (-1), .int 0, .int (-1)]))] s.heap := hP
  have hl := lv_entry ([.ref a0]) (n := 1) (Nat.le_of_ble_eq_true rfl)
  rw [lg_entry_eq]
  generalize (lg_sl ([.ref a0]) ++ List.replicate (1 - (lg_sl ([.ref a0])).length) Slot.unset).toArray = ls at hl ⊢
  have hl : lv_has ls 1 [(0, .ref a0)] := hl
  refine lv_aload_n hx hb dX11_take_0 rfl (lv_at hl 0 rfl) ?_
  refine va_get (D := (dC, dI)) (ci := 11) (v := .int 0) (C := RX11) (T := TX11) (N := 15) hx hb hts iX11 hown hK hP 0 rfl rfl 10 (by decide) (hts _ k268) (fun _ h9 => h9) rfl dX11_take_1 ?_
  refine lv_if_ne (tgt := 9) hx hb dX11_take_4 (by decide) (fun c9 => absurd c9 (by decide)) (fun _ => ?_)
  refine lv_iconst (v := (-1)) hx hb dX11_take_7 (by decide) ?_
  have hP9 := hP.sub (ws' := []) [] rfl
  have hD9 := hD.sub (ws' := []) [] (by decide) rfl
  have hK9 := hK.sub (tys' := []) [] rfl
  refine W.widen (k := 0) (n := 0) (Nat.le_of_ble_eq_true rfl) (Nat.le_of_ble_eq_true rfl) ?_
  exact W.iret (v := (-1)) hx hb hr (fun t ht hW => ⟨⟨(-1), (), rfl, rfl, by rw [ht]; exact hP9, va_K.moved hW.alike hK9, hD9⟩, hS.F ht⟩) hS.2.2 dX11_take_8
set_option maxHeartbeats 4000000 in
set_option maxRecDepth 100000 in
theorem c_X11_patch_1 (l : Launch) (dC : Nat → ClassId) (dI : Nat → Nat → Nat) (a0 : Nat) (p1 : Int32) (p2 : Int32) (a3 : Nat) (a4 : Nat) (a5 : Nat) (a6 : Nat) (a7 : Nat) (a8 : Nat) (a9 : Nat) (a10 : Nat) (a11 : Nat) (sz : Nat) : Met l yX11_patch (Cond.code yX11_patch cX11_patch 3 (some .boolean) :: wB) { frames := 0, cells := 0, slots := 0, locals := 0 } (va_Pc [.ref a0, .int p1, .int p2] (pX (dC, dI) sz [(a0, .inr (11, [.ref a3, .ref a4, .ref a5, .ref a6, .ref a7, .ref a8, .ref a9, .ref a10, .ref a11, .int 0, .int 0, .int 0, .int (-1), .int 0, .int (-1)]))] [])) (va_Qi (fun (r : Int32) (z : Unit) => r = 0) (fun z t => qX (dC, dI) [] [] (va_A [(a0, .inr (11, [.ref a3, .ref a4, .ref a5, .ref a6, .ref a7, .ref a8, .ref a9, .ref a10, .ref a11, .int 0, .int 0, .int 0, .int (-1), .int 0, .int (-1)]))] sz) t) (va_A [(a0, .inr (11, [.ref a3, .ref a4, .ref a5, .ref a6, .ref a7, .ref a8, .ref a9, .ref a10, .ref a11, .int 0, .int 0, .int 0, .int (-1), .int 0, .int (-1)]))] sz)) 0 0 (va_A [(a0, .inr (11, [.ref a3, .ref a4, .ref a5, .ref a6, .ref a7, .ref a8, .ref a9, .ref a10, .ref a11, .int 0, .int 0, .int 0, .int (-1), .int 0, .int (-1)]))] sz) := by
  refine Met.ofW (cc := cX11_patch) (maxL := 3) (ret := (some .boolean)) (by decide) rfl ?_
  intro p e s m args below meth c s₁ B hml hv
  obtain ⟨rfl, hsz, hP, hK, hD0, hN⟩ := hv
  have hx := B.exec
  have hb := B.bytes
  have hr := B.returns
  have hts : ∀ w ∈ wB, w.before _ s = true := fun w h => atoms_spec (ws := Cond.code yX11_patch cX11_patch 3 (some .boolean) :: wB) B.pre w (List.mem_cons_of_mem _ h)
  have hown : s.vm.findClass RX11 = some m.cls := findClass_of_methodNamed B.named
  have hlocks := B.notSynchronized
  subst hsz
  have hD := hD0.self (sz := s.heap.size)
  generalize hAe : va_A [(a0, .inr (11, [.ref a3, .ref a4, .ref a5, .ref a6, .ref a7, .ref a8, .ref a9, .ref a10, .ref a11, .int 0, .int 0, .int 0, .int (-1), .int 0, .int (-1)]))] s.heap.size = A at hD ⊢
  have hA : ∀ q : Nat, s.heap.size ≤ q → A q := fun q h => by rw [← hAe]; exact Or.inr h
  have hS : va_S A s.heap s.heap [] := va_S.rf
  have hP : va_P (dC, dI) vwCl [(a0, .inr (11, [.ref a3, .ref a4, .ref a5, .ref a6, .ref a7, .ref a8, .ref a9, .ref a10, .ref a11, .int 0, .int 0, .int 0, .int (-1), .int 0, .int (-1)]))] s.heap := hP
  have hl := lv_entry ([.ref a0, .int p1, .int p2]) (n := 3) (Nat.le_of_ble_eq_true rfl)
  rw [lg_entry_eq]
  generalize (lg_sl ([.ref a0, .int p1, .int p2]) ++ List.replicate (3 - (lg_sl ([.ref a0, .int p1, .int p2])).length) Slot.unset).toArray = ls at hl ⊢
  have hl : lv_has ls 3 [(0, .ref a0), (1, .int p1), (2, .int p2)] := hl
  refine lv_iload_n hx hb dX11_patch_0 rfl (lv_at hl 1 rfl) ?_
  refine lv_if_lt (tgt := 12) hx hb dX11_patch_1 (by decide) (fun h1 => ?_) (fun h1 => ?_)
  · refine lv_iconst (v := 0) hx hb dX11_patch_12 (by decide) ?_
    have hP9 := hP.sub (ws' := []) [] rfl
    have hD9 := hD.sub (ws' := []) [] (by decide) rfl
    have hK9 := hK.sub (tys' := []) [] rfl
    refine W.widen (k := 0) (n := 0) (Nat.le_of_ble_eq_true rfl) (Nat.le_of_ble_eq_true rfl) ?_
    exact W.zret (v := 0) hx hb hr rfl (fun t ht hW => ⟨⟨0, (), rfl, rfl, by rw [ht]; exact hP9, va_K.moved hW.alike hK9, hD9⟩, hS.F ht⟩) hS.2.2 dX11_patch_13
  · refine lv_iload_n hx hb dX11_patch_4 rfl (lv_at hl 1 rfl) ?_
    refine lv_aload_n hx hb dX11_patch_5 rfl (lv_at hl 0 rfl) ?_
    refine va_get (D := (dC, dI)) (ci := 11) (v := .int 0) (C := RX11) (T := TX11) (N := 15) hx hb hts iX11 hown hK hP 0 rfl rfl 9 (by decide) (hts _ k180) (fun _ h9 => h9) rfl dX11_patch_6 ?_
    refine lv_icmp_lt (tgt := 14) hx hb dX11_patch_9 (by decide) (fun h2 => ?_) (fun h2 => ?_)
    · exact False.elim (by revert h1 h2; simp only [Int32.lt_iff_toInt_lt, Int32.le_iff_toInt_le, ← Int32.toInt_inj, z0, z1, z2, z3, z10, z11, z12, z13, z14, z20000, zm1, z50]; intros; omega)
    · refine lv_iconst (v := 0) hx hb dX11_patch_12 (by decide) ?_
      have hP9 := hP.sub (ws' := []) [] rfl
      have hD9 := hD.sub (ws' := []) [] (by decide) rfl
      have hK9 := hK.sub (tys' := []) [] rfl
      refine W.widen (k := 0) (n := 0) (Nat.le_of_ble_eq_true rfl) (Nat.le_of_ble_eq_true rfl) ?_
      exact W.zret (v := 0) hx hb hr rfl (fun t ht hW => ⟨⟨0, (), rfl, rfl, by rw [ht]; exact hP9, va_K.moved hW.alike hK9, hD9⟩, hS.F ht⟩) hS.2.2 dX11_patch_13
set_option maxHeartbeats 4000000 in
set_option maxRecDepth 100000 in
theorem c_X11_seal_1 (l : Launch) (dC : Nat → ClassId) (dI : Nat → Nat → Nat) (a0 : Nat) (a1 : Nat) (a2 : Nat) (a3 : Nat) (a4 : Nat) (a5 : Nat) (a6 : Nat) (a7 : Nat) (a8 : Nat) (a9 : Nat) (sz : Nat) : Met l yX11_seal (Cond.code yX11_seal cX11_seal 1 (some .boolean) :: wB) { frames := 0, cells := 0, slots := 0, locals := 0 } (va_Pc [.ref a0] (pX (dC, dI) sz [(a0, .inr (11, [.ref a1, .ref a2, .ref a3, .ref a4, .ref a5, .ref a6, .ref a7, .ref a8, .ref a9, .int 0, .int 0, .int 0, .int (-1), .int 0, .int (-1)]))] [])) (va_Qi (fun (r : Int32) (z : Unit) => r = 0) (fun z t => qX (dC, dI) [] [] (va_A [(a0, .inr (11, [.ref a1, .ref a2, .ref a3, .ref a4, .ref a5, .ref a6, .ref a7, .ref a8, .ref a9, .int 0, .int 0, .int 0, .int (-1), .int 0, .int (-1)]))] sz) t) (va_A [(a0, .inr (11, [.ref a1, .ref a2, .ref a3, .ref a4, .ref a5, .ref a6, .ref a7, .ref a8, .ref a9, .int 0, .int 0, .int 0, .int (-1), .int 0, .int (-1)]))] sz)) 0 0 (va_A [(a0, .inr (11, [.ref a1, .ref a2, .ref a3, .ref a4, .ref a5, .ref a6, .ref a7, .ref a8, .ref a9, .int 0, .int 0, .int 0, .int (-1), .int 0, .int (-1)]))] sz) := by
  refine Met.ofW (cc := cX11_seal) (maxL := 1) (ret := (some .boolean)) (by decide) rfl ?_
  intro p e s m args below meth c s₁ B hml hv
  obtain ⟨rfl, hsz, hP, hK, hD0, hN⟩ := hv
  have hx := B.exec
  have hb := B.bytes
  have hr := B.returns
  have hts : ∀ w ∈ wB, w.before _ s = true := fun w h => atoms_spec (ws := Cond.code yX11_seal cX11_seal 1 (some .boolean) :: wB) B.pre w (List.mem_cons_of_mem _ h)
  have hown : s.vm.findClass RX11 = some m.cls := findClass_of_methodNamed B.named
  have hlocks := B.notSynchronized
  subst hsz
  have hD := hD0.self (sz := s.heap.size)
  generalize hAe : va_A [(a0, .inr (11, [.ref a1, .ref a2, .ref a3, .ref a4, .ref a5, .ref a6, .ref a7, .ref a8, .ref a9, .int 0, .int 0, .int 0, .int (-1), .int 0, .int (-1)]))] s.heap.size = A at hD ⊢
  have hA : ∀ q : Nat, s.heap.size ≤ q → A q := fun q h => by rw [← hAe]; exact Or.inr h
  have hS : va_S A s.heap s.heap [] := va_S.rf
  have hP : va_P (dC, dI) vwCl [(a0, .inr (11, [.ref a1, .ref a2, .ref a3, .ref a4, .ref a5, .ref a6, .ref a7, .ref a8, .ref a9, .int 0, .int 0, .int 0, .int (-1), .int 0, .int (-1)]))] s.heap := hP
  have hl := lv_entry ([.ref a0]) (n := 1) (Nat.le_of_ble_eq_true rfl)
  rw [lg_entry_eq]
  generalize (lg_sl ([.ref a0]) ++ List.replicate (1 - (lg_sl ([.ref a0])).length) Slot.unset).toArray = ls at hl ⊢
  have hl : lv_has ls 1 [(0, .ref a0)] := hl
  refine lv_aload_n hx hb dX11_seal_0 rfl (lv_at hl 0 rfl) ?_
  refine va_get (D := (dC, dI)) (ci := 11) (v := .int 0) (C := RX11) (T := TX11) (N := 15) hx hb hts iX11 hown hK hP 0 rfl rfl 9 (by decide) (hts _ k180) (fun _ h9 => h9) rfl dX11_seal_1 ?_
  refine lv_iconst (v := 4) hx hb dX11_seal_4 (by decide) ?_
  refine lv_icmp_ge (tgt := 10) hx hb dX11_seal_5 (by decide) (fun c9 => absurd c9 (by decide)) (fun _ => ?_)
  refine lv_iconst (v := 0) hx hb dX11_seal_8 (by decide) ?_
  have hP9 := hP.sub (ws' := []) [] rfl
  have hD9 := hD.sub (ws' := []) [] (by decide) rfl
  have hK9 := hK.sub (tys' := []) [] rfl
  refine W.widen (k := 0) (n := 0) (Nat.le_of_ble_eq_true rfl) (Nat.le_of_ble_eq_true rfl) ?_
  exact W.zret (v := 0) hx hb hr rfl (fun t ht hW => ⟨⟨0, (), rfl, rfl, by rw [ht]; exact hP9, va_K.moved hW.alike hK9, hD9⟩, hS.F ht⟩) hS.2.2 dX11_seal_9
set_option maxHeartbeats 4000000 in
set_option maxRecDepth 100000 in
theorem c_X5_layoutFault_1 (l : Launch) (dC : Nat → ClassId) (dI : Nat → Nat → Nat) (a0 : Nat) (a1 : Nat) (a2 : Nat) (a3 : Nat) (a4 : Nat) (a5 : Nat) (a6 : Nat) (a7 : Nat) (a8 : Nat) (a9 : Nat) (a10 : Nat) (a11 : Nat) (sz : Nat) : Met l yX5_layoutFault (Cond.code yX5_layoutFault cX5_layoutFault 7 (some .int) :: wB) { frames := 0, cells := 0, slots := 0, locals := 0 } (va_Pc [.ref a0, .ref a1, .int 0] (pX (dC, dI) sz [(a0, .inr (5, [.ref a2, .ref a3, .ref a4, .ref a5, .ref a6, .ref a7, .ref a8, .int 0, .int 0, .ref a9, .ref a10, .ref a11, .int 0, .int 0, .int 0, .null, .null, .null, .null]))] [])) (va_Qi (fun (r : Int32) (z : Unit) => r = 0) (fun z t => qX (dC, dI) [(a0, .inr (5, [.ref a2, .ref a3, .ref a4, .ref a5, .ref a6, .ref a7, .ref a8, .int 0, .int 0, .ref a9, .ref a10, .ref a1, .int 0, .int 0, .int 0, .null, .null, .null, .null]))] [] (va_A [(a0, .inr (5, [.ref a2, .ref a3, .ref a4, .ref a5, .ref a6, .ref a7, .ref a8, .int 0, .int 0, .ref a9, .ref a10, .ref a11, .int 0, .int 0, .int 0, .null, .null, .null, .null]))] sz) t) (va_A [(a0, .inr (5, [.ref a2, .ref a3, .ref a4, .ref a5, .ref a6, .ref a7, .ref a8, .int 0, .int 0, .ref a9, .ref a10, .ref a11, .int 0, .int 0, .int 0, .null, .null, .null, .null]))] sz)) 0 0 (va_A [(a0, .inr (5, [.ref a2, .ref a3, .ref a4, .ref a5, .ref a6, .ref a7, .ref a8, .int 0, .int 0, .ref a9, .ref a10, .ref a11, .int 0, .int 0, .int 0, .null, .null, .null, .null]))] sz) := by
  refine Met.ofW (cc := cX5_layoutFault) (maxL := 7) (ret := (some .int)) (by decide) rfl ?_
  intro p e s m args below meth c s₁ B hml hv
  obtain ⟨rfl, hsz, hP, hK, hD0, hN⟩ := hv
  have hx := B.exec
  have hb := B.bytes
  have hr := B.returns
  have hts : ∀ w ∈ wB, w.before _ s = true := fun w h => atoms_spec (ws := Cond.code yX5_layoutFault cX5_layoutFault 7 (some .int) :: wB) B.pre w (List.mem_cons_of_mem _ h)
  have hown : s.vm.findClass RX5 = some m.cls := findClass_of_methodNamed B.named
  have hlocks := B.notSynchronized
  subst hsz
  have hD := hD0.self (sz := s.heap.size)
  generalize hAe : va_A [(a0, .inr (5, [.ref a2, .ref a3, .ref a4, .ref a5, .ref a6, .ref a7, .ref a8, .int 0, .int 0, .ref a9, .ref a10, .ref a11, .int 0, .int 0, .int 0, .null, .null, .null, .null]))] s.heap.size = A at hD ⊢
  have hA : ∀ q : Nat, s.heap.size ≤ q → A q := fun q h => by rw [← hAe]; exact Or.inr h
  have hS : va_S A s.heap s.heap [] := va_S.rf
  have hP : va_P (dC, dI) vwCl [(a0, .inr (5, [.ref a2, .ref a3, .ref a4, .ref a5, .ref a6, .ref a7, .ref a8, .int 0, .int 0, .ref a9, .ref a10, .ref a11, .int 0, .int 0, .int 0, .null, .null, .null, .null]))] s.heap := hP
  have hl := lv_entry ([.ref a0, .ref a1, .int 0]) (n := 7) (Nat.le_of_ble_eq_true rfl)
  rw [lg_entry_eq]
  generalize (lg_sl ([.ref a0, .ref a1, .int 0]) ++ List.replicate (7 - (lg_sl ([.ref a0, .ref a1, .int 0])).length) Slot.unset).toArray = ls at hl ⊢
  have hl : lv_has ls 7 [(0, .ref a0), (1, .ref a1), (2, .int 0)] := hl
  refine lv_aload_n hx hb dX5_layoutFault_0 rfl (lv_at hl 0 rfl) ?_
  refine lv_aload_n hx hb dX5_layoutFault_1 rfl (lv_at hl 1 rfl) ?_
  refine va_put (D := (dC, dI)) (ci := 5) (v := .ref a1) (ty := (.array .byte)) (C := RX5) (T := TX5) (N := 19) hx hb hts iX5 tyX5 tyX5_ok nmX5 hown hK hP hD hS 0 rfl rfl 11 (by decide) (hts _ k85) (fun _ h9 => h9) rfl (by decide +kernel) rfl rfl (Nat.le_of_ble_eq_true rfl) dX5_layoutFault_2 (fun H locs hP hD hS => ?_)
  have hP : va_P (dC, dI) vwCl [(a0, .inr (5, [.ref a2, .ref a3, .ref a4, .ref a5, .ref a6, .ref a7, .ref a8, .int 0, .int 0, .ref a9, .ref a10, .ref a1, .int 0, .int 0, .int 0, .null, .null, .null, .null]))] H := hP
  have hD : va_D A [(a0, .inr (5, [.ref a2, .ref a3, .ref a4, .ref a5, .ref a6, .ref a7, .ref a8, .int 0, .int 0, .ref a9, .ref a10, .ref a1, .int 0, .int 0, .int 0, .null, .null, .null, .null]))] := hD
  refine lv_iconst (v := 0) hx hb dX5_layoutFault_5 (by decide) ?_
  refine lv_istore_n (lv' := [(3, .int 0), (0, .ref a0), (1, .ref a1), (2, .int 0)]) hx hb dX5_layoutFault_6 rfl hl (by decide) rfl (fun ls hl => ?_)
  refine lv_iload_n hx hb dX5_layoutFault_7 rfl (lv_at hl 0 rfl) ?_
  refine lv_bipush (v := 7) hx hb dX5_layoutFault_8 (by decide) ?_
  refine lv_icmp_ge (tgt := 85) hx hb dX5_layoutFault_10 (by decide) (fun c9 => absurd c9 (by decide)) (fun _ => ?_)
  refine lv_iload_n hx hb dX5_layoutFault_13 rfl (lv_at hl 0 rfl) ?_
  refine lv_iload_n hx hb dX5_layoutFault_14 rfl (lv_at hl 3 rfl) ?_
  refine lv_icmp_ge (tgt := 85) hx hb dX5_layoutFault_15 (by decide) (fun _ => ?_) (fun c9 => absurd c9 (by decide))
  refine lv_iload_n hx hb dX5_layoutFault_85 rfl (lv_at hl 3 rfl) ?_
  refine lv_bipush (v := 11) hx hb dX5_layoutFault_86 (by decide) ?_
  refine lv_icmp_ge (tgt := 93) hx hb dX5_layoutFault_88 (by decide) (fun c9 => absurd c9 (by decide)) (fun _ => ?_)
  refine lv_iload_n hx hb dX5_layoutFault_91 rfl (lv_at hl 3 rfl) ?_
  have hP9 := hP.sub (ws' := [(a0, .inr (5, [.ref a2, .ref a3, .ref a4, .ref a5, .ref a6, .ref a7, .ref a8, .int 0, .int 0, .ref a9, .ref a10, .ref a1, .int 0, .int 0, .int 0, .null, .null, .null, .null]))]) [0] rfl
  have hD9 := hD.sub (ws' := [(a0, .inr (5, [.ref a2, .ref a3, .ref a4, .ref a5, .ref a6, .ref a7, .ref a8, .int 0, .int 0, .ref a9, .ref a10, .ref a1, .int 0, .int 0, .int 0, .null, .null, .null, .null]))]) [0] (by decide) rfl
  have hK9 := hK.sub (tys' := []) [] rfl
  refine W.widen (k := 0) (n := 0) (Nat.le_of_ble_eq_true rfl) (Nat.le_of_ble_eq_true rfl) ?_
  exact W.iret (v := 0) hx hb hr (fun t ht hW => ⟨⟨0, (), rfl, rfl, by rw [ht]; exact hP9, va_K.moved hW.alike hK9, hD9⟩, hS.F ht⟩) hS.2.2 dX5_layoutFault_92
set_option maxHeartbeats 4000000 in
set_option maxRecDepth 100000 in
theorem c_X11_refuse_1 (l : Launch) (dC : Nat → ClassId) (dI : Nat → Nat → Nat) (a0 : Nat) (a1 : Nat) (a2 : Nat) (a3 : Nat) (a4 : Nat) (a5 : Nat) (a6 : Nat) (a7 : Nat) (a8 : Nat) (a9 : Nat) (sz : Nat) : Met l yX11_refuse (Cond.code yX11_refuse cX11_refuse 3 (some .int) :: wB) { frames := 0, cells := 0, slots := 0, locals := 0 } (va_Pc [.ref a0, .int 1, .int 0] (pX (dC, dI) sz [(a0, .inr (11, [.ref a1, .ref a2, .ref a3, .ref a4, .ref a5, .ref a6, .ref a7, .ref a8, .ref a9, .int 0, .int 0, .int 0, .int (-1), .int 0, .int (-1)]))] [])) (va_Qi (fun (r : Int32) (z : Unit) => r = 1) (fun z t => qX (dC, dI) [(a0, .inr (11, [.ref a1, .ref a2, .ref a3, .ref a4, .ref a5, .ref a6, .ref a7, .ref a8, .ref a9, .int 0, .int 0, .int 0, .int (-1), .int 1, .int 0]))] [] (va_A [(a0, .inr (11, [.ref a1, .ref a2, .ref a3, .ref a4, .ref a5, .ref a6, .ref a7, .ref a8, .ref a9, .int 0, .int 0, .int 0, .int (-1), .int 0, .int (-1)]))] sz) t) (va_A [(a0, .inr (11, [.ref a1, .ref a2, .ref a3, .ref a4, .ref a5, .ref a6, .ref a7, .ref a8, .ref a9, .int 0, .int 0, .int 0, .int (-1), .int 0, .int (-1)]))] sz)) 0 0 (va_A [(a0, .inr (11, [.ref a1, .ref a2, .ref a3, .ref a4, .ref a5, .ref a6, .ref a7, .ref a8, .ref a9, .int 0, .int 0, .int 0, .int (-1), .int 0, .int (-1)]))] sz) := by
  refine Met.ofW (cc := cX11_refuse) (maxL := 3) (ret := (some .int)) (by decide) rfl ?_
  intro p e s m args below meth c s₁ B hml hv
  obtain ⟨rfl, hsz, hP, hK, hD0, hN⟩ := hv
  have hx := B.exec
  have hb := B.bytes
  have hr := B.returns
  have hts : ∀ w ∈ wB, w.before _ s = true := fun w h => atoms_spec (ws := Cond.code yX11_refuse cX11_refuse 3 (some .int) :: wB) B.pre w (List.mem_cons_of_mem _ h)
  have hown : s.vm.findClass RX11 = some m.cls := findClass_of_methodNamed B.named
  have hlocks := B.notSynchronized
  subst hsz
  have hD := hD0.self (sz := s.heap.size)
  generalize hAe : va_A [(a0, .inr (11, [.ref a1, .ref a2, .ref a3, .ref a4, .ref a5, .ref a6, .ref a7, .ref a8, .ref a9, .int 0, .int 0, .int 0, .int (-1), .int 0, .int (-1)]))] s.heap.size = A at hD ⊢
  have hA : ∀ q : Nat, s.heap.size ≤ q → A q := fun q h => by rw [← hAe]; exact Or.inr h
  have hS : va_S A s.heap s.heap [] := va_S.rf
  have hP : va_P (dC, dI) vwCl [(a0, .inr (11, [.ref a1, .ref a2, .ref a3, .ref a4, .ref a5, .ref a6, .ref a7, .ref a8, .ref a9, .int 0, .int 0, .int 0, .int (-1), .int 0, .int (-1)]))] s.heap := hP
  have hl := lv_entry ([.ref a0, .int 1, .int 0]) (n := 3) (Nat.le_of_ble_eq_true rfl)
  rw [lg_entry_eq]
  generalize (lg_sl ([.ref a0, .int 1, .int 0]) ++ List.replicate (3 - (lg_sl ([.ref a0, .int 1, .int 0])).length) Slot.unset).toArray = ls at hl ⊢
  have hl : lv_has ls 3 [(0, .ref a0), (1, .int 1), (2, .int 0)] := hl
  refine lv_aload_n hx hb dX11_refuse_0 rfl (lv_at hl 0 rfl) ?_
  refine lv_iload_n hx hb dX11_refuse_1 rfl (lv_at hl 1 rfl) ?_
  refine va_put (D := (dC, dI)) (ci := 11) (v := .int 1) (ty := .int) (C := RX11) (T := TX11) (N := 15) hx hb hts iX11 tyX11 tyX11_ok nmX11 hown hK hP hD hS 0 rfl rfl 13 (by decide) (hts _ k266) (fun _ h9 => h9) rfl (by decide +kernel) rfl rfl (Nat.le_of_ble_eq_true rfl) dX11_refuse_2 (fun H locs hP hD hS => ?_)
  have hP : va_P (dC, dI) vwCl [(a0, .inr (11, [.ref a1, .ref a2, .ref a3, .ref a4, .ref a5, .ref a6, .ref a7, .ref a8, .ref a9, .int 0, .int 0, .int 0, .int (-1), .int 1, .int (-1)]))] H := hP
  have hD : va_D A [(a0, .inr (11, [.ref a1, .ref a2, .ref a3, .ref a4, .ref a5, .ref a6, .ref a7, .ref a8, .ref a9, .int 0, .int 0, .int 0, .int (-1), .int 1, .int (-1)]))] := hD
  refine lv_aload_n hx hb dX11_refuse_5 rfl (lv_at hl 0 rfl) ?_
  refine lv_iload_n hx hb dX11_refuse_6 rfl (lv_at hl 2 rfl) ?_
  refine va_put (D := (dC, dI)) (ci := 11) (v := .int 0) (ty := .int) (C := RX11) (T := TX11) (N := 15) hx hb hts iX11 tyX11 tyX11_ok nmX11 hown hK hP hD hS 0 rfl rfl 14 (by decide) (hts _ k179) (fun _ h9 => h9) rfl (by decide +kernel) rfl rfl (Nat.le_of_ble_eq_true rfl) dX11_refuse_7 (fun H locs hP hD hS => ?_)
  have hP : va_P (dC, dI) vwCl [(a0, .inr (11, [.ref a1, .ref a2, .ref a3, .ref a4, .ref a5, .ref a6, .ref a7, .ref a8, .ref a9, .int 0, .int 0, .int 0, .int (-1), .int 1, .int 0]))] H := hP
  have hD : va_D A [(a0, .inr (11, [.ref a1, .ref a2, .ref a3, .ref a4, .ref a5, .ref a6, .ref a7, .ref a8, .ref a9, .int 0, .int 0, .int 0, .int (-1), .int 1, .int 0]))] := hD
  refine lv_iload_n hx hb dX11_refuse_10 rfl (lv_at hl 1 rfl) ?_
  have hP9 := hP.sub (ws' := [(a0, .inr (11, [.ref a1, .ref a2, .ref a3, .ref a4, .ref a5, .ref a6, .ref a7, .ref a8, .ref a9, .int 0, .int 0, .int 0, .int (-1), .int 1, .int 0]))]) [0] rfl
  have hD9 := hD.sub (ws' := [(a0, .inr (11, [.ref a1, .ref a2, .ref a3, .ref a4, .ref a5, .ref a6, .ref a7, .ref a8, .ref a9, .int 0, .int 0, .int 0, .int (-1), .int 1, .int 0]))]) [0] (by decide) rfl
  have hK9 := hK.sub (tys' := []) [] rfl
  refine W.widen (k := 0) (n := 0) (Nat.le_of_ble_eq_true rfl) (Nat.le_of_ble_eq_true rfl) ?_
  exact W.iret (v := 1) hx hb hr (fun t ht hW => ⟨⟨1, (), rfl, rfl, by rw [ht]; exact hP9, va_K.moved hW.alike hK9, hD9⟩, hS.F ht⟩) hS.2.2 dX11_refuse_11
set_option maxHeartbeats 4000000 in
set_option maxRecDepth 100000 in
theorem c_X11_restore_1 (l : Launch) (dC : Nat → ClassId) (dI : Nat → Nat → Nat) (a0 : Nat) (w1 : Int64) (p2 : Int32) (a3 : Nat) (a4 : Nat) (a5 : Nat) (a6 : Nat) (a7 : Nat) (a8 : Nat) (a9 : Nat) (a10 : Nat) (a11 : Nat) (a12 : Nat) (a13 : Nat) (a14 : Nat) (a15 : Nat) (a16 : Nat) (a17 : Nat) (a18 : Nat) (a19 : Nat) (a20 : Nat) (a21 : Nat) (sz : Nat) : Met l yX11_restore (Cond.code yX11_restore cX11_restore 6 (some .int) :: wB) { frames := 1, cells := 0, slots := 0, locals := 26 } (va_Pc [.ref a0, .long w1, .int p2] (pX (dC, dI) sz [(a0, .inr (11, [.ref a3, .ref a4, .ref a5, .ref a6, .ref a7, .ref a8, .ref a9, .ref a10, .ref a11, .int 0, .int 0, .int 0, .int (-1), .int 0, .int (-1)])), (a8, .inr (5, [.ref a12, .ref a13, .ref a14, .ref a15, .ref a16, .ref a17, .ref a18, .int 0, .int 0, .ref a19, .ref a20, .ref a21, .int 0, .int 0, .int 0, .null, .null, .null, .null]))] [])) (va_Qi (fun (r : Int32) (z : Unit) => r = (fRes w1)) (fun z t => qX (dC, dI) [] [] (va_A [(a0, .inr (11, [.ref a3, .ref a4, .ref a5, .ref a6, .ref a7, .ref a8, .ref a9, .ref a10, .ref a11, .int 0, .int 0, .int 0, .int (-1), .int 0, .int (-1)])), (a8, .inr (5, [.ref a12, .ref a13, .ref a14, .ref a15, .ref a16, .ref a17, .ref a18, .int 0, .int 0, .ref a19, .ref a20, .ref a21, .int 0, .int 0, .int 0, .null, .null, .null, .null]))] sz) t) (va_A [(a0, .inr (11, [.ref a3, .ref a4, .ref a5, .ref a6, .ref a7, .ref a8, .ref a9, .ref a10, .ref a11, .int 0, .int 0, .int 0, .int (-1), .int 0, .int (-1)])), (a8, .inr (5, [.ref a12, .ref a13, .ref a14, .ref a15, .ref a16, .ref a17, .ref a18, .int 0, .int 0, .ref a19, .ref a20, .ref a21, .int 0, .int 0, .int 0, .null, .null, .null, .null]))] sz)) 0 0 (va_A [(a0, .inr (11, [.ref a3, .ref a4, .ref a5, .ref a6, .ref a7, .ref a8, .ref a9, .ref a10, .ref a11, .int 0, .int 0, .int 0, .int (-1), .int 0, .int (-1)])), (a8, .inr (5, [.ref a12, .ref a13, .ref a14, .ref a15, .ref a16, .ref a17, .ref a18, .int 0, .int 0, .ref a19, .ref a20, .ref a21, .int 0, .int 0, .int 0, .null, .null, .null, .null]))] sz) := by
  refine Met.ofW (cc := cX11_restore) (maxL := 6) (ret := (some .int)) (by decide) rfl ?_
  intro p e s m args below meth c s₁ B hml hv
  obtain ⟨rfl, hsz, hP, hK, hD0, hN⟩ := hv
  have hx := B.exec
  have hb := B.bytes
  have hr := B.returns
  have hts : ∀ w ∈ wB, w.before _ s = true := fun w h => atoms_spec (ws := Cond.code yX11_restore cX11_restore 6 (some .int) :: wB) B.pre w (List.mem_cons_of_mem _ h)
  have hown : s.vm.findClass RX11 = some m.cls := findClass_of_methodNamed B.named
  have hlocks := B.notSynchronized
  subst hsz
  have hD := hD0.self (sz := s.heap.size)
  generalize hAe : va_A [(a0, .inr (11, [.ref a3, .ref a4, .ref a5, .ref a6, .ref a7, .ref a8, .ref a9, .ref a10, .ref a11, .int 0, .int 0, .int 0, .int (-1), .int 0, .int (-1)])), (a8, .inr (5, [.ref a12, .ref a13, .ref a14, .ref a15, .ref a16, .ref a17, .ref a18, .int 0, .int 0, .ref a19, .ref a20, .ref a21, .int 0, .int 0, .int 0, .null, .null, .null, .null]))] s.heap.size = A at hD ⊢
  have hA : ∀ q : Nat, s.heap.size ≤ q → A q := fun q h => by rw [← hAe]; exact Or.inr h
  have hS : va_S A s.heap s.heap [] := va_S.rf
  have hP : va_P (dC, dI) vwCl [(a0, .inr (11, [.ref a3, .ref a4, .ref a5, .ref a6, .ref a7, .ref a8, .ref a9, .ref a10, .ref a11, .int 0, .int 0, .int 0, .int (-1), .int 0, .int (-1)])), (a8, .inr (5, [.ref a12, .ref a13, .ref a14, .ref a15, .ref a16, .ref a17, .ref a18, .int 0, .int 0, .ref a19, .ref a20, .ref a21, .int 0, .int 0, .int 0, .null, .null, .null, .null]))] s.heap := hP
  have hl := lv_entry ([.ref a0, .long w1, .int p2]) (n := 6) (Nat.le_of_ble_eq_true rfl)
  rw [lg_entry_eq]
  generalize (lg_sl ([.ref a0, .long w1, .int p2]) ++ List.replicate (6 - (lg_sl ([.ref a0, .long w1, .int p2])).length) Slot.unset).toArray = ls at hl ⊢
  have hl : lv_has ls 6 [(0, .ref a0), (1, .long w1), (3, .int p2)] := hl
  refine lv_lload_n hx hb dX11_restore_0 rfl (lv_at hl 1 rfl) ?_
  refine lv_lconst (v := 0) hx hb dX11_restore_1 (by decide) ?_
  refine W.lcmp hx hb dX11_restore_2 ?_
  refine lv_if_lt (tgt := 14) hx hb dX11_restore_3 (by decide) (fun h1 => ?_) (fun h1 => ?_)
  · refine lv_bipush (v := 7) hx hb dX11_restore_14 (by decide) ?_
    have hP9 := hP.sub (ws' := []) [] rfl
    have hD9 := hD.sub (ws' := []) [] (by decide) rfl
    have hK9 := hK.sub (tys' := []) [] rfl
    refine W.widen (k := 0) (n := 0) (Nat.le_of_ble_eq_true rfl) (Nat.le_of_ble_eq_true rfl) ?_
    exact W.iret (v := 7) hx hb hr (fun t ht hW => ⟨⟨7, (), rfl, (by simp [fRes, h1]), by rw [ht]; exact hP9, va_K.moved hW.alike hK9, hD9⟩, hS.F ht⟩) hS.2.2 dX11_restore_16
  · refine lv_lload_n hx hb dX11_restore_6 rfl (lv_at hl 1 rfl) ?_
    refine lv_ldc2 (own := RX11) (v := 4000000000000000000) hx hb hown (hts _ k271) dX11_restore_7 ?_
    refine W.lcmp hx hb dX11_restore_10 ?_
    refine lv_if_le (tgt := 17) hx hb dX11_restore_11 (by decide) (fun h2 => ?_) (fun h2 => ?_)
    · refine lv_aload_n hx hb dX11_restore_17 rfl (lv_at hl 0 rfl) ?_
      refine va_get (D := (dC, dI)) (ci := 11) (v := .ref a8) (C := RX11) (T := TX11) (N := 15) hx hb hts iX11 hown hK hP 0 rfl rfl 5 (by decide) (hts _ k89) (fun _ h9 => h9) rfl dX11_restore_18 ?_
      refine lv_aload_n hx hb dX11_restore_21 rfl (lv_at hl 0 rfl) ?_
      refine va_get (D := (dC, dI)) (ci := 11) (v := .ref a3) (C := RX11) (T := TX11) (N := 15) hx hb hts iX11 hown hK hP 0 rfl rfl 0 (by decide) (hts _ k6) (fun _ h9 => h9) rfl dX11_restore_22 ?_
      refine lv_aload_n hx hb dX11_restore_25 rfl (lv_at hl 0 rfl) ?_
      refine va_get (D := (dC, dI)) (ci := 11) (v := .int 0) (C := RX11) (T := TX11) (N := 15) hx hb hts iX11 hown hK hP 0 rfl rfl 9 (by decide) (hts _ k180) (fun _ h9 => h9) rfl dX11_restore_26 ?_
      refine xV_i (n := 2) (As := [.ref a3, .int 0]) (rest := []) (wc := [(a8, .inr (5, [.ref a12, .ref a13, .ref a14, .ref a15, .ref a16, .ref a17, .ref a18, .int 0, .int 0, .ref a19, .ref a20, .ref a21, .int 0, .int 0, .int 0, .null, .null, .null, .null]))]) (wr := [(a0, .inr (11, [.ref a3, .ref a4, .ref a5, .ref a6, .ref a7, .ref a8, .ref a9, .ref a10, .ref a11, .int 0, .int 0, .int 0, .int (-1), .int 0, .int (-1)]))]) (tc := []) ⟨hx, hb, hml, hown, hts⟩ (c_X5_layoutFault_1 l dC dI a8 a3 a12 a13 a14 a15 a16 a17 a18 a19 a20 a21 s.heap.size) ⟨k272, k273, k274, k74, k275⟩ (by decide +kernel) rfl ⟨Nat.le_of_ble_eq_true rfl, Nat.le_of_ble_eq_true rfl⟩ ⟨Nat.le_of_ble_eq_true rfl, Nat.le_of_ble_eq_true rfl⟩ hK hP hD hS hA hN [1] [0] [] rfl rfl (by decide) (by decide) rfl 0 rfl rfl hl.1 rfl (Nat.le_of_ble_eq_true rfl) dX11_restore_29 (fun r9 z H locs hw hK hP hD hS => ?_)
      have hK : va_K (dC, dI) vwCl [] s := hK
      have hP : va_P (dC, dI) vwCl [(a0, .inr (11, [.ref a3, .ref a4, .ref a5, .ref a6, .ref a7, .ref a8, .ref a9, .ref a10, .ref a11, .int 0, .int 0, .int 0, .int (-1), .int 0, .int (-1)])), (a8, .inr (5, [.ref a12, .ref a13, .ref a14, .ref a15, .ref a16, .ref a17, .ref a18, .int 0, .int 0, .ref a19, .ref a20, .ref a3, .int 0, .int 0, .int 0, .null, .null, .null, .null]))] H := hP
      have hD : va_D A [(a0, .inr (11, [.ref a3, .ref a4, .ref a5, .ref a6, .ref a7, .ref a8, .ref a9, .ref a10, .ref a11, .int 0, .int 0, .int 0, .int (-1), .int 0, .int (-1)])), (a8, .inr (5, [.ref a12, .ref a13, .ref a14, .ref a15, .ref a16, .ref a17, .ref a18, .int 0, .int 0, .ref a19, .ref a20, .ref a3, .int 0, .int 0, .int 0, .null, .null, .null, .null]))] := hD
      refine W.widen (k := 0) (n := 0) (Nat.le_of_ble_eq_true rfl) (Nat.le_of_ble_eq_true rfl) ?_
      refine lv_is 0 hw ?_
      refine lv_istore (lv' := [(4, .int 0), (0, .ref a0), (1, .long w1), (3, .int p2)]) hx hb dX11_restore_32 hl (by decide) rfl (fun ls hl => ?_)
      refine lv_iload hx hb dX11_restore_34 (lv_at hl 0 rfl) ?_
      refine lv_iconst (v := (-1)) hx hb dX11_restore_36 (by decide) ?_
      refine lv_icmp_eq (tgt := 48) hx hb dX11_restore_37 (by decide) (fun c9 => absurd c9 (by decide)) (fun _ => ?_)
      refine lv_aload_n hx hb dX11_restore_40 rfl (lv_at hl 1 rfl) ?_
      refine lv_iconst (v := 1) hx hb dX11_restore_41 (by decide) ?_
      refine lv_iload hx hb dX11_restore_42 (lv_at hl 0 rfl) ?_
      refine xV_i (n := 2) (As := [.int 1, .int 0]) (rest := []) (wc := [(a0, .inr (11, [.ref a3, .ref a4, .ref a5, .ref a6, .ref a7, .ref a8, .ref a9, .ref a10, .ref a11, .int 0, .int 0, .int 0, .int (-1), .int 0, .int (-1)]))]) (wr := [(a8, .inr (5, [.ref a12, .ref a13, .ref a14, .ref a15, .ref a16, .ref a17, .ref a18, .int 0, .int 0, .ref a19, .ref a20, .ref a3, .int 0, .int 0, .int 0, .null, .null, .null, .null]))]) (tc := []) ⟨hx, hb, hml, hown, hts⟩ (c_X11_refuse_1 l dC dI a0 a3 a4 a5 a6 a7 a8 a9 a10 a11 H.size) ⟨k276, k277, k278, k184, k279⟩ (by decide +kernel) rfl ⟨Nat.le_of_ble_eq_true rfl, Nat.le_of_ble_eq_true rfl⟩ ⟨Nat.le_of_ble_eq_true rfl, Nat.le_of_ble_eq_true rfl⟩ hK hP hD hS hA hN [0] [1] [] rfl rfl (by decide) (by decide) rfl 0 rfl rfl hl.1 rfl (Nat.le_of_ble_eq_true rfl) dX11_restore_44 (fun r9 z H locs hw hK hP hD hS => ?_)
      have hK : va_K (dC, dI) vwCl [] s := hK
      have hP : va_P (dC, dI) vwCl [(a8, .inr (5, [.ref a12, .ref a13, .ref a14, .ref a15, .ref a16, .ref a17, .ref a18, .int 0, .int 0, .ref a19, .ref a20, .ref a3, .int 0, .int 0, .int 0, .null, .null, .null, .null])), (a0, .inr (11, [.ref a3, .ref a4, .ref a5, .ref a6, .ref a7, .ref a8, .ref a9, .ref a10, .ref a11, .int 0, .int 0, .int 0, .int (-1), .int 1, .int 0]))] H := hP
      have hD : va_D A [(a8, .inr (5, [.ref a12, .ref a13, .ref a14, .ref a15, .ref a16, .ref a17, .ref a18, .int 0, .int 0, .ref a19, .ref a20, .ref a3, .int 0, .int 0, .int 0, .null, .null, .null, .null])), (a0, .inr (11, [.ref a3, .ref a4, .ref a5, .ref a6, .ref a7, .ref a8, .ref a9, .ref a10, .ref a11, .int 0, .int 0, .int 0, .int (-1), .int 1, .int 0]))] := hD
      refine W.widen (k := 0) (n := 0) (Nat.le_of_ble_eq_true rfl) (Nat.le_of_ble_eq_true rfl) ?_
      refine lv_is 1 hw ?_
      have hP9 := hP.sub (ws' := []) [] rfl
      have hD9 := hD.sub (ws' := []) [] (by decide) rfl
      have hK9 := hK.sub (tys' := []) [] rfl
      refine W.widen (k := 0) (n := 0) (Nat.le_of_ble_eq_true rfl) (Nat.le_of_ble_eq_true rfl) ?_
      exact W.iret (v := 1) hx hb hr (fun t ht hW => ⟨⟨1, (), rfl, (by simp [fRes, h1, h2]), by rw [ht]; exact hP9, va_K.moved hW.alike hK9, hD9⟩, hS.F ht⟩) hS.2.2 dX11_restore_47
    · refine lv_bipush (v := 7) hx hb dX11_restore_14 (by decide) ?_
      have hP9 := hP.sub (ws' := []) [] rfl
      have hD9 := hD.sub (ws' := []) [] (by decide) rfl
      have hK9 := hK.sub (tys' := []) [] rfl
      refine W.widen (k := 0) (n := 0) (Nat.le_of_ble_eq_true rfl) (Nat.le_of_ble_eq_true rfl) ?_
      exact W.iret (v := 7) hx hb hr (fun t ht hW => ⟨⟨7, (), rfl, (by simp [fRes, h1, h2]), by rw [ht]; exact hP9, va_K.moved hW.alike hK9, hD9⟩, hS.F ht⟩) hS.2.2 dX11_restore_16
set_option maxHeartbeats 4000000 in
set_option maxRecDepth 100000 in
theorem c_X11_thaw_1 (l : Launch) (dC : Nat → ClassId) (dI : Nat → Nat → Nat) (a0 : Nat) (a1 : Nat) (a2 : Nat) (a3 : Nat) (a4 : Nat) (a5 : Nat) (a6 : Nat) (a7 : Nat) (a8 : Nat) (a9 : Nat) (a10 : Nat) (a11 : Nat) (a12 : Nat) (a13 : Nat) (a14 : Nat) (a15 : Nat) (a16 : Nat) (sz : Nat) : Met l yX11_thaw (Cond.code yX11_thaw cX11_thaw 1 (some .boolean) :: wB) { frames := 0, cells := 0, slots := 0, locals := 0 } (va_Pc [.ref a0] (pX (dC, dI) sz [(a0, .inr (11, [.ref a1, .ref a2, .ref a3, .ref a4, .ref a5, .ref a6, .ref a7, .ref a8, .ref a9, .int 0, .int 0, .int 0, .int (-1), .int 0, .int (-1)])), (a8, .inr (2, [.ref a10, .ref a11, .ref a12, .ref a13, .ref a14, .ref a15, .ref a16, .int 0, .int 0, .int 0, .int 0, .int 0, .int 0, .int 0, .int 0, .long 0, .int (-1), .int 0, .int 0, .int 0]))] [])) (va_Qi (fun (r : Int32) (z : Unit) => r = 0) (fun z t => qX (dC, dI) [] [] (va_A [(a0, .inr (11, [.ref a1, .ref a2, .ref a3, .ref a4, .ref a5, .ref a6, .ref a7, .ref a8, .ref a9, .int 0, .int 0, .int 0, .int (-1), .int 0, .int (-1)])), (a8, .inr (2, [.ref a10, .ref a11, .ref a12, .ref a13, .ref a14, .ref a15, .ref a16, .int 0, .int 0, .int 0, .int 0, .int 0, .int 0, .int 0, .int 0, .long 0, .int (-1), .int 0, .int 0, .int 0]))] sz) t) (va_A [(a0, .inr (11, [.ref a1, .ref a2, .ref a3, .ref a4, .ref a5, .ref a6, .ref a7, .ref a8, .ref a9, .int 0, .int 0, .int 0, .int (-1), .int 0, .int (-1)])), (a8, .inr (2, [.ref a10, .ref a11, .ref a12, .ref a13, .ref a14, .ref a15, .ref a16, .int 0, .int 0, .int 0, .int 0, .int 0, .int 0, .int 0, .int 0, .long 0, .int (-1), .int 0, .int 0, .int 0]))] sz)) 0 0 (va_A [(a0, .inr (11, [.ref a1, .ref a2, .ref a3, .ref a4, .ref a5, .ref a6, .ref a7, .ref a8, .ref a9, .int 0, .int 0, .int 0, .int (-1), .int 0, .int (-1)])), (a8, .inr (2, [.ref a10, .ref a11, .ref a12, .ref a13, .ref a14, .ref a15, .ref a16, .int 0, .int 0, .int 0, .int 0, .int 0, .int 0, .int 0, .int 0, .long 0, .int (-1), .int 0, .int 0, .int 0]))] sz) := by
  refine Met.ofW (cc := cX11_thaw) (maxL := 1) (ret := (some .boolean)) (by decide) rfl ?_
  intro p e s m args below meth c s₁ B hml hv
  obtain ⟨rfl, hsz, hP, hK, hD0, hN⟩ := hv
  have hx := B.exec
  have hb := B.bytes
  have hr := B.returns
  have hts : ∀ w ∈ wB, w.before _ s = true := fun w h => atoms_spec (ws := Cond.code yX11_thaw cX11_thaw 1 (some .boolean) :: wB) B.pre w (List.mem_cons_of_mem _ h)
  have hown : s.vm.findClass RX11 = some m.cls := findClass_of_methodNamed B.named
  have hlocks := B.notSynchronized
  subst hsz
  have hD := hD0.self (sz := s.heap.size)
  generalize hAe : va_A [(a0, .inr (11, [.ref a1, .ref a2, .ref a3, .ref a4, .ref a5, .ref a6, .ref a7, .ref a8, .ref a9, .int 0, .int 0, .int 0, .int (-1), .int 0, .int (-1)])), (a8, .inr (2, [.ref a10, .ref a11, .ref a12, .ref a13, .ref a14, .ref a15, .ref a16, .int 0, .int 0, .int 0, .int 0, .int 0, .int 0, .int 0, .int 0, .long 0, .int (-1), .int 0, .int 0, .int 0]))] s.heap.size = A at hD ⊢
  have hA : ∀ q : Nat, s.heap.size ≤ q → A q := fun q h => by rw [← hAe]; exact Or.inr h
  have hS : va_S A s.heap s.heap [] := va_S.rf
  have hP : va_P (dC, dI) vwCl [(a0, .inr (11, [.ref a1, .ref a2, .ref a3, .ref a4, .ref a5, .ref a6, .ref a7, .ref a8, .ref a9, .int 0, .int 0, .int 0, .int (-1), .int 0, .int (-1)])), (a8, .inr (2, [.ref a10, .ref a11, .ref a12, .ref a13, .ref a14, .ref a15, .ref a16, .int 0, .int 0, .int 0, .int 0, .int 0, .int 0, .int 0, .int 0, .long 0, .int (-1), .int 0, .int 0, .int 0]))] s.heap := hP
  have hl := lv_entry ([.ref a0]) (n := 1) (Nat.le_of_ble_eq_true rfl)
  rw [lg_entry_eq]
  generalize (lg_sl ([.ref a0]) ++ List.replicate (1 - (lg_sl ([.ref a0])).length) Slot.unset).toArray = ls at hl ⊢
  have hl : lv_has ls 1 [(0, .ref a0)] := hl
  refine lv_aload_n hx hb dX11_thaw_0 rfl (lv_at hl 0 rfl) ?_
  refine va_get (D := (dC, dI)) (ci := 11) (v := .ref a8) (C := RX11) (T := TX11) (N := 15) hx hb hts iX11 hown hK hP 0 rfl rfl 7 (by decide) (hts _ k176) (fun _ h9 => h9) rfl dX11_thaw_1 ?_
  refine va_get (D := (dC, dI)) (ci := 2) (v := .int 0) (C := RX2) (T := TX2) (N := 20) hx hb hts iX2 hown hK hP 1 rfl rfl 7 (by decide) (hts _ k267) (fun _ h9 => h9) rfl dX11_thaw_4 ?_
  refine lv_iconst (v := 2) hx hb dX11_thaw_7 (by decide) ?_
  refine lv_icmp_eq (tgt := 13) hx hb dX11_thaw_8 (by decide) (fun c9 => absurd c9 (by decide)) (fun _ => ?_)
  refine lv_iconst (v := 0) hx hb dX11_thaw_11 (by decide) ?_
  have hP9 := hP.sub (ws' := []) [] rfl
  have hD9 := hD.sub (ws' := []) [] (by decide) rfl
  have hK9 := hK.sub (tys' := []) [] rfl
  refine W.widen (k := 0) (n := 0) (Nat.le_of_ble_eq_true rfl) (Nat.le_of_ble_eq_true rfl) ?_
  exact W.zret (v := 0) hx hb hr rfl (fun t ht hW => ⟨⟨0, (), rfl, rfl, by rw [ht]; exact hP9, va_K.moved hW.alike hK9, hD9⟩, hS.F ht⟩) hS.2.2 dX11_thaw_12
set_option maxHeartbeats 4000000 in
set_option maxRecDepth 100000 in
theorem c_X11_thread_1 (l : Launch) (dC : Nat → ClassId) (dI : Nat → Nat → Nat) (a0 : Nat) (p1 : Int32) (p2 : Int32) (a3 : Nat) (a4 : Nat) (a5 : Nat) (a6 : Nat) (a7 : Nat) (a8 : Nat) (a9 : Nat) (a10 : Nat) (a11 : Nat) (a12 : Nat) (a13 : Nat) (a14 : Nat) (a15 : Nat) (a16 : Nat) (a17 : Nat) (a18 : Nat) (sz : Nat) : Met l yX11_thread (Cond.code yX11_thread cX11_thread 3 (some .int) :: wB) { frames := 0, cells := 0, slots := 0, locals := 0 } (va_Pc [.ref a0, .int p1, .int p2] (pX (dC, dI) sz [(a0, .inr (11, [.ref a3, .ref a4, .ref a5, .ref a6, .ref a7, .ref a8, .ref a9, .ref a10, .ref a11, .int 0, .int 0, .int 0, .int (-1), .int 0, .int (-1)])), (a10, .inr (2, [.ref a12, .ref a13, .ref a14, .ref a15, .ref a16, .ref a17, .ref a18, .int 0, .int 0, .int 0, .int 0, .int 0, .int 0, .int 0, .int 0, .long 0, .int (-1), .int 0, .int 0, .int 0]))] [])) (va_Qi (fun (r : Int32) (z : Unit) => r = (-1)) (fun z t => qX (dC, dI) [] [] (va_A [(a0, .inr (11, [.ref a3, .ref a4, .ref a5, .ref a6, .ref a7, .ref a8, .ref a9, .ref a10, .ref a11, .int 0, .int 0, .int 0, .int (-1), .int 0, .int (-1)])), (a10, .inr (2, [.ref a12, .ref a13, .ref a14, .ref a15, .ref a16, .ref a17, .ref a18, .int 0, .int 0, .int 0, .int 0, .int 0, .int 0, .int 0, .int 0, .long 0, .int (-1), .int 0, .int 0, .int 0]))] sz) t) (va_A [(a0, .inr (11, [.ref a3, .ref a4, .ref a5, .ref a6, .ref a7, .ref a8, .ref a9, .ref a10, .ref a11, .int 0, .int 0, .int 0, .int (-1), .int 0, .int (-1)])), (a10, .inr (2, [.ref a12, .ref a13, .ref a14, .ref a15, .ref a16, .ref a17, .ref a18, .int 0, .int 0, .int 0, .int 0, .int 0, .int 0, .int 0, .int 0, .long 0, .int (-1), .int 0, .int 0, .int 0]))] sz)) 0 0 (va_A [(a0, .inr (11, [.ref a3, .ref a4, .ref a5, .ref a6, .ref a7, .ref a8, .ref a9, .ref a10, .ref a11, .int 0, .int 0, .int 0, .int (-1), .int 0, .int (-1)])), (a10, .inr (2, [.ref a12, .ref a13, .ref a14, .ref a15, .ref a16, .ref a17, .ref a18, .int 0, .int 0, .int 0, .int 0, .int 0, .int 0, .int 0, .int 0, .long 0, .int (-1), .int 0, .int 0, .int 0]))] sz) := by
  refine Met.ofW (cc := cX11_thread) (maxL := 3) (ret := (some .int)) (by decide) rfl ?_
  intro p e s m args below meth c s₁ B hml hv
  obtain ⟨rfl, hsz, hP, hK, hD0, hN⟩ := hv
  have hx := B.exec
  have hb := B.bytes
  have hr := B.returns
  have hts : ∀ w ∈ wB, w.before _ s = true := fun w h => atoms_spec (ws := Cond.code yX11_thread cX11_thread 3 (some .int) :: wB) B.pre w (List.mem_cons_of_mem _ h)
  have hown : s.vm.findClass RX11 = some m.cls := findClass_of_methodNamed B.named
  have hlocks := B.notSynchronized
  subst hsz
  have hD := hD0.self (sz := s.heap.size)
  generalize hAe : va_A [(a0, .inr (11, [.ref a3, .ref a4, .ref a5, .ref a6, .ref a7, .ref a8, .ref a9, .ref a10, .ref a11, .int 0, .int 0, .int 0, .int (-1), .int 0, .int (-1)])), (a10, .inr (2, [.ref a12, .ref a13, .ref a14, .ref a15, .ref a16, .ref a17, .ref a18, .int 0, .int 0, .int 0, .int 0, .int 0, .int 0, .int 0, .int 0, .long 0, .int (-1), .int 0, .int 0, .int 0]))] s.heap.size = A at hD ⊢
  have hA : ∀ q : Nat, s.heap.size ≤ q → A q := fun q h => by rw [← hAe]; exact Or.inr h
  have hS : va_S A s.heap s.heap [] := va_S.rf
  have hP : va_P (dC, dI) vwCl [(a0, .inr (11, [.ref a3, .ref a4, .ref a5, .ref a6, .ref a7, .ref a8, .ref a9, .ref a10, .ref a11, .int 0, .int 0, .int 0, .int (-1), .int 0, .int (-1)])), (a10, .inr (2, [.ref a12, .ref a13, .ref a14, .ref a15, .ref a16, .ref a17, .ref a18, .int 0, .int 0, .int 0, .int 0, .int 0, .int 0, .int 0, .int 0, .long 0, .int (-1), .int 0, .int 0, .int 0]))] s.heap := hP
  have hl := lv_entry ([.ref a0, .int p1, .int p2]) (n := 3) (Nat.le_of_ble_eq_true rfl)
  rw [lg_entry_eq]
  generalize (lg_sl ([.ref a0, .int p1, .int p2]) ++ List.replicate (3 - (lg_sl ([.ref a0, .int p1, .int p2])).length) Slot.unset).toArray = ls at hl ⊢
  have hl : lv_has ls 3 [(0, .ref a0), (1, .int p1), (2, .int p2)] := hl
  refine lv_aload_n hx hb dX11_thread_0 rfl (lv_at hl 0 rfl) ?_
  refine va_get (D := (dC, dI)) (ci := 11) (v := .ref a10) (C := RX11) (T := TX11) (N := 15) hx hb hts iX11 hown hK hP 0 rfl rfl 7 (by decide) (hts _ k176) (fun _ h9 => h9) rfl dX11_thread_1 ?_
  refine va_get (D := (dC, dI)) (ci := 2) (v := .int 0) (C := RX2) (T := TX2) (N := 20) hx hb hts iX2 hown hK hP 1 rfl rfl 7 (by decide) (hts _ k267) (fun _ h9 => h9) rfl dX11_thread_4 ?_
  refine lv_if_eq (tgt := 28) hx hb dX11_thread_7 (by decide) (fun _ => ?_) (fun c9 => absurd c9 (by decide))
  refine lv_iconst (v := (-1)) hx hb dX11_thread_28 (by decide) ?_
  have hP9 := hP.sub (ws' := []) [] rfl
  have hD9 := hD.sub (ws' := []) [] (by decide) rfl
  have hK9 := hK.sub (tys' := []) [] rfl
  refine W.widen (k := 0) (n := 0) (Nat.le_of_ble_eq_true rfl) (Nat.le_of_ble_eq_true rfl) ?_
  exact W.iret (v := (-1)) hx hb hr (fun t ht hW => ⟨⟨(-1), (), rfl, rfl, by rw [ht]; exact hP9, va_K.moved hW.alike hK9, hD9⟩, hS.F ht⟩) hS.2.2 dX11_thread_29
set_option maxHeartbeats 4000000 in
set_option maxRecDepth 100000 in
theorem c_X11_method_1 (l : Launch) (dC : Nat → ClassId) (dI : Nat → Nat → Nat) (a0 : Nat) (p1 : Int32) (p2 : Int32) (a3 : Nat) (a4 : Nat) (a5 : Nat) (a6 : Nat) (a7 : Nat) (a8 : Nat) (a9 : Nat) (a10 : Nat) (a11 : Nat) (a12 : Nat) (a13 : Nat) (a14 : Nat) (a15 : Nat) (a16 : Nat) (a17 : Nat) (a18 : Nat) (sz : Nat) : Met l yX11_method (Cond.code yX11_method cX11_method 3 (some .int) :: wB) { frames := 0, cells := 0, slots := 0, locals := 0 } (va_Pc [.ref a0, .int p1, .int p2] (pX (dC, dI) sz [(a0, .inr (11, [.ref a3, .ref a4, .ref a5, .ref a6, .ref a7, .ref a8, .ref a9, .ref a10, .ref a11, .int 0, .int 0, .int 0, .int (-1), .int 0, .int (-1)])), (a10, .inr (2, [.ref a12, .ref a13, .ref a14, .ref a15, .ref a16, .ref a17, .ref a18, .int 0, .int 0, .int 0, .int 0, .int 0, .int 0, .int 0, .int 0, .long 0, .int (-1), .int 0, .int 0, .int 0]))] [])) (va_Qi (fun (r : Int32) (z : Unit) => r = (-1)) (fun z t => qX (dC, dI) [] [] (va_A [(a0, .inr (11, [.ref a3, .ref a4, .ref a5, .ref a6, .ref a7, .ref a8, .ref a9, .ref a10, .ref a11, .int 0, .int 0, .int 0, .int (-1), .int 0, .int (-1)])), (a10, .inr (2, [.ref a12, .ref a13, .ref a14, .ref a15, .ref a16, .ref a17, .ref a18, .int 0, .int 0, .int 0, .int 0, .int 0, .int 0, .int 0, .int 0, .long 0, .int (-1), .int 0, .int 0, .int 0]))] sz) t) (va_A [(a0, .inr (11, [.ref a3, .ref a4, .ref a5, .ref a6, .ref a7, .ref a8, .ref a9, .ref a10, .ref a11, .int 0, .int 0, .int 0, .int (-1), .int 0, .int (-1)])), (a10, .inr (2, [.ref a12, .ref a13, .ref a14, .ref a15, .ref a16, .ref a17, .ref a18, .int 0, .int 0, .int 0, .int 0, .int 0, .int 0, .int 0, .int 0, .long 0, .int (-1), .int 0, .int 0, .int 0]))] sz)) 0 0 (va_A [(a0, .inr (11, [.ref a3, .ref a4, .ref a5, .ref a6, .ref a7, .ref a8, .ref a9, .ref a10, .ref a11, .int 0, .int 0, .int 0, .int (-1), .int 0, .int (-1)])), (a10, .inr (2, [.ref a12, .ref a13, .ref a14, .ref a15, .ref a16, .ref a17, .ref a18, .int 0, .int 0, .int 0, .int 0, .int 0, .int 0, .int 0, .int 0, .long 0, .int (-1), .int 0, .int 0, .int 0]))] sz) := by
  refine Met.ofW (cc := cX11_method) (maxL := 3) (ret := (some .int)) (by decide) rfl ?_
  intro p e s m args below meth c s₁ B hml hv
  obtain ⟨rfl, hsz, hP, hK, hD0, hN⟩ := hv
  have hx := B.exec
  have hb := B.bytes
  have hr := B.returns
  have hts : ∀ w ∈ wB, w.before _ s = true := fun w h => atoms_spec (ws := Cond.code yX11_method cX11_method 3 (some .int) :: wB) B.pre w (List.mem_cons_of_mem _ h)
  have hown : s.vm.findClass RX11 = some m.cls := findClass_of_methodNamed B.named
  have hlocks := B.notSynchronized
  subst hsz
  have hD := hD0.self (sz := s.heap.size)
  generalize hAe : va_A [(a0, .inr (11, [.ref a3, .ref a4, .ref a5, .ref a6, .ref a7, .ref a8, .ref a9, .ref a10, .ref a11, .int 0, .int 0, .int 0, .int (-1), .int 0, .int (-1)])), (a10, .inr (2, [.ref a12, .ref a13, .ref a14, .ref a15, .ref a16, .ref a17, .ref a18, .int 0, .int 0, .int 0, .int 0, .int 0, .int 0, .int 0, .int 0, .long 0, .int (-1), .int 0, .int 0, .int 0]))] s.heap.size = A at hD ⊢
  have hA : ∀ q : Nat, s.heap.size ≤ q → A q := fun q h => by rw [← hAe]; exact Or.inr h
  have hS : va_S A s.heap s.heap [] := va_S.rf
  have hP : va_P (dC, dI) vwCl [(a0, .inr (11, [.ref a3, .ref a4, .ref a5, .ref a6, .ref a7, .ref a8, .ref a9, .ref a10, .ref a11, .int 0, .int 0, .int 0, .int (-1), .int 0, .int (-1)])), (a10, .inr (2, [.ref a12, .ref a13, .ref a14, .ref a15, .ref a16, .ref a17, .ref a18, .int 0, .int 0, .int 0, .int 0, .int 0, .int 0, .int 0, .int 0, .long 0, .int (-1), .int 0, .int 0, .int 0]))] s.heap := hP
  have hl := lv_entry ([.ref a0, .int p1, .int p2]) (n := 3) (Nat.le_of_ble_eq_true rfl)
  rw [lg_entry_eq]
  generalize (lg_sl ([.ref a0, .int p1, .int p2]) ++ List.replicate (3 - (lg_sl ([.ref a0, .int p1, .int p2])).length) Slot.unset).toArray = ls at hl ⊢
  have hl : lv_has ls 3 [(0, .ref a0), (1, .int p1), (2, .int p2)] := hl
  refine lv_aload_n hx hb dX11_method_0 rfl (lv_at hl 0 rfl) ?_
  refine va_get (D := (dC, dI)) (ci := 11) (v := .ref a10) (C := RX11) (T := TX11) (N := 15) hx hb hts iX11 hown hK hP 0 rfl rfl 7 (by decide) (hts _ k176) (fun _ h9 => h9) rfl dX11_method_1 ?_
  refine va_get (D := (dC, dI)) (ci := 2) (v := .int 0) (C := RX2) (T := TX2) (N := 20) hx hb hts iX2 hown hK hP 1 rfl rfl 7 (by decide) (hts _ k267) (fun _ h9 => h9) rfl dX11_method_4 ?_
  refine lv_if_eq (tgt := 28) hx hb dX11_method_7 (by decide) (fun _ => ?_) (fun c9 => absurd c9 (by decide))
  refine lv_iconst (v := (-1)) hx hb dX11_method_28 (by decide) ?_
  have hP9 := hP.sub (ws' := []) [] rfl
  have hD9 := hD.sub (ws' := []) [] (by decide) rfl
  have hK9 := hK.sub (tys' := []) [] rfl
  refine W.widen (k := 0) (n := 0) (Nat.le_of_ble_eq_true rfl) (Nat.le_of_ble_eq_true rfl) ?_
  exact W.iret (v := (-1)) hx hb hr (fun t ht hW => ⟨⟨(-1), (), rfl, rfl, by rw [ht]; exact hP9, va_K.moved hW.alike hK9, hD9⟩, hS.F ht⟩) hS.2.2 dX11_method_29
set_option maxHeartbeats 4000000 in
set_option maxRecDepth 100000 in
theorem c_X11_klass_1 (l : Launch) (dC : Nat → ClassId) (dI : Nat → Nat → Nat) (a0 : Nat) (p1 : Int32) (p2 : Int32) (a3 : Nat) (a4 : Nat) (a5 : Nat) (a6 : Nat) (a7 : Nat) (a8 : Nat) (a9 : Nat) (a10 : Nat) (a11 : Nat) (a12 : Nat) (a13 : Nat) (a14 : Nat) (a15 : Nat) (a16 : Nat) (a17 : Nat) (a18 : Nat) (sz : Nat) : Met l yX11_klass (Cond.code yX11_klass cX11_klass 3 (some .int) :: wB) { frames := 0, cells := 0, slots := 0, locals := 0 } (va_Pc [.ref a0, .int p1, .int p2] (pX (dC, dI) sz [(a0, .inr (11, [.ref a3, .ref a4, .ref a5, .ref a6, .ref a7, .ref a8, .ref a9, .ref a10, .ref a11, .int 0, .int 0, .int 0, .int (-1), .int 0, .int (-1)])), (a10, .inr (2, [.ref a12, .ref a13, .ref a14, .ref a15, .ref a16, .ref a17, .ref a18, .int 0, .int 0, .int 0, .int 0, .int 0, .int 0, .int 0, .int 0, .long 0, .int (-1), .int 0, .int 0, .int 0]))] [])) (va_Qi (fun (r : Int32) (z : Unit) => r = (-1)) (fun z t => qX (dC, dI) [] [] (va_A [(a0, .inr (11, [.ref a3, .ref a4, .ref a5, .ref a6, .ref a7, .ref a8, .ref a9, .ref a10, .ref a11, .int 0, .int 0, .int 0, .int (-1), .int 0, .int (-1)])), (a10, .inr (2, [.ref a12, .ref a13, .ref a14, .ref a15, .ref a16, .ref a17, .ref a18, .int 0, .int 0, .int 0, .int 0, .int 0, .int 0, .int 0, .int 0, .long 0, .int (-1), .int 0, .int 0, .int 0]))] sz) t) (va_A [(a0, .inr (11, [.ref a3, .ref a4, .ref a5, .ref a6, .ref a7, .ref a8, .ref a9, .ref a10, .ref a11, .int 0, .int 0, .int 0, .int (-1), .int 0, .int (-1)])), (a10, .inr (2, [.ref a12, .ref a13, .ref a14, .ref a15, .ref a16, .ref a17, .ref a18, .int 0, .int 0, .int 0, .int 0, .int 0, .int 0, .int 0, .int 0, .long 0, .int (-1), .int 0, .int 0, .int 0]))] sz)) 0 0 (va_A [(a0, .inr (11, [.ref a3, .ref a4, .ref a5, .ref a6, .ref a7, .ref a8, .ref a9, .ref a10, .ref a11, .int 0, .int 0, .int 0, .int (-1), .int 0, .int (-1)])), (a10, .inr (2, [.ref a12, .ref a13, .ref a14, .ref a15, .ref a16, .ref a17, .ref a18, .int 0, .int 0, .int 0, .int 0, .int 0, .int 0, .int 0, .int 0, .long 0, .int (-1), .int 0, .int 0, .int 0]))] sz) := by
  refine Met.ofW (cc := cX11_klass) (maxL := 3) (ret := (some .int)) (by decide) rfl ?_
  intro p e s m args below meth c s₁ B hml hv
  obtain ⟨rfl, hsz, hP, hK, hD0, hN⟩ := hv
  have hx := B.exec
  have hb := B.bytes
  have hr := B.returns
  have hts : ∀ w ∈ wB, w.before _ s = true := fun w h => atoms_spec (ws := Cond.code yX11_klass cX11_klass 3 (some .int) :: wB) B.pre w (List.mem_cons_of_mem _ h)
  have hown : s.vm.findClass RX11 = some m.cls := findClass_of_methodNamed B.named
  have hlocks := B.notSynchronized
  subst hsz
  have hD := hD0.self (sz := s.heap.size)
  generalize hAe : va_A [(a0, .inr (11, [.ref a3, .ref a4, .ref a5, .ref a6, .ref a7, .ref a8, .ref a9, .ref a10, .ref a11, .int 0, .int 0, .int 0, .int (-1), .int 0, .int (-1)])), (a10, .inr (2, [.ref a12, .ref a13, .ref a14, .ref a15, .ref a16, .ref a17, .ref a18, .int 0, .int 0, .int 0, .int 0, .int 0, .int 0, .int 0, .int 0, .long 0, .int (-1), .int 0, .int 0, .int 0]))] s.heap.size = A at hD ⊢
  have hA : ∀ q : Nat, s.heap.size ≤ q → A q := fun q h => by rw [← hAe]; exact Or.inr h
  have hS : va_S A s.heap s.heap [] := va_S.rf
  have hP : va_P (dC, dI) vwCl [(a0, .inr (11, [.ref a3, .ref a4, .ref a5, .ref a6, .ref a7, .ref a8, .ref a9, .ref a10, .ref a11, .int 0, .int 0, .int 0, .int (-1), .int 0, .int (-1)])), (a10, .inr (2, [.ref a12, .ref a13, .ref a14, .ref a15, .ref a16, .ref a17, .ref a18, .int 0, .int 0, .int 0, .int 0, .int 0, .int 0, .int 0, .int 0, .long 0, .int (-1), .int 0, .int 0, .int 0]))] s.heap := hP
  have hl := lv_entry ([.ref a0, .int p1, .int p2]) (n := 3) (Nat.le_of_ble_eq_true rfl)
  rw [lg_entry_eq]
  generalize (lg_sl ([.ref a0, .int p1, .int p2]) ++ List.replicate (3 - (lg_sl ([.ref a0, .int p1, .int p2])).length) Slot.unset).toArray = ls at hl ⊢
  have hl : lv_has ls 3 [(0, .ref a0), (1, .int p1), (2, .int p2)] := hl
  refine lv_aload_n hx hb dX11_klass_0 rfl (lv_at hl 0 rfl) ?_
  refine va_get (D := (dC, dI)) (ci := 11) (v := .ref a10) (C := RX11) (T := TX11) (N := 15) hx hb hts iX11 hown hK hP 0 rfl rfl 7 (by decide) (hts _ k176) (fun _ h9 => h9) rfl dX11_klass_1 ?_
  refine va_get (D := (dC, dI)) (ci := 2) (v := .int 0) (C := RX2) (T := TX2) (N := 20) hx hb hts iX2 hown hK hP 1 rfl rfl 7 (by decide) (hts _ k267) (fun _ h9 => h9) rfl dX11_klass_4 ?_
  refine lv_if_ne (tgt := 12) hx hb dX11_klass_7 (by decide) (fun c9 => absurd c9 (by decide)) (fun _ => ?_)
  refine lv_iconst (v := (-1)) hx hb dX11_klass_10 (by decide) ?_
  have hP9 := hP.sub (ws' := []) [] rfl
  have hD9 := hD.sub (ws' := []) [] (by decide) rfl
  have hK9 := hK.sub (tys' := []) [] rfl
  refine W.widen (k := 0) (n := 0) (Nat.le_of_ble_eq_true rfl) (Nat.le_of_ble_eq_true rfl) ?_
  exact W.iret (v := (-1)) hx hb hr (fun t ht hW => ⟨⟨(-1), (), rfl, rfl, by rw [ht]; exact hP9, va_K.moved hW.alike hK9, hD9⟩, hS.F ht⟩) hS.2.2 dX11_klass_11
