theorem z0 : (0 : Int32).toInt = 0 := rfl
theorem z1 : (1 : Int32).toInt = 1 := rfl
theorem z2 : (2 : Int32).toInt = 2 := rfl
theorem z3 : (3 : Int32).toInt = 3 := rfl
theorem z10 : (10 : Int32).toInt = 10 := rfl
theorem z11 : (11 : Int32).toInt = 11 := rfl
theorem z12 : (12 : Int32).toInt = 12 := rfl
theorem z13 : (13 : Int32).toInt = 13 := rfl
theorem z14 : (14 : Int32).toInt = 14 := rfl
theorem z20000 : (20000 : Int32).toInt = 20000 := rfl
theorem zm1 : (-1 : Int32).toInt = -1 := rfl
theorem z50 : (50 : Int32).toInt = 50 := rfl
theorem tsw3 (x : Int32) : (x.toInt < 0 ∨ 3 < x.toInt) ∨ x = 0 ∨ x = 1 ∨ x = 2 ∨ x = 3 := by
  have h : (x.toInt < 0 ∨ 3 < x.toInt) ∨ x.toInt = 0 ∨ x.toInt = 1 ∨ x.toInt = 2 ∨ x.toInt = 3 := by omega
  rcases h with h | h | h | h | h
  · exact Or.inl h
  · exact Or.inr (Or.inl (Int32.toInt_inj.mp h))
  · exact Or.inr (Or.inr (Or.inl (Int32.toInt_inj.mp h)))
  · exact Or.inr (Or.inr (Or.inr (Or.inl (Int32.toInt_inj.mp h))))
  · exact Or.inr (Or.inr (Or.inr (Or.inr ((Int32.toInt_inj.mp h)))))
theorem tsw12 (x : Int32) : (x.toInt < 0 ∨ 12 < x.toInt) ∨ x = 0 ∨ x = 1 ∨ x = 2 ∨ x = 3 ∨ x = 4 ∨ x = 5 ∨ x = 6 ∨ x = 7 ∨ x = 8 ∨ x = 9 ∨ x = 10 ∨ x = 11 ∨ x = 12 := by
  have h : (x.toInt < 0 ∨ 12 < x.toInt) ∨ x.toInt = 0 ∨ x.toInt = 1 ∨ x.toInt = 2 ∨ x.toInt = 3 ∨ x.toInt = 4 ∨ x.toInt = 5 ∨ x.toInt = 6 ∨ x.toInt = 7 ∨ x.toInt = 8 ∨ x.toInt = 9 ∨ x.toInt = 10 ∨ x.toInt = 11 ∨ x.toInt = 12 := by omega
  rcases h with h | h | h | h | h | h | h | h | h | h | h | h | h | h
  · exact Or.inl h
  · exact Or.inr (Or.inl (Int32.toInt_inj.mp h))
  · exact Or.inr (Or.inr (Or.inl (Int32.toInt_inj.mp h)))
  · exact Or.inr (Or.inr (Or.inr (Or.inl (Int32.toInt_inj.mp h))))
  · exact Or.inr (Or.inr (Or.inr (Or.inr (Or.inl (Int32.toInt_inj.mp h)))))
  · exact Or.inr (Or.inr (Or.inr (Or.inr (Or.inr (Or.inl (Int32.toInt_inj.mp h))))))
  · exact Or.inr (Or.inr (Or.inr (Or.inr (Or.inr (Or.inr (Or.inl (Int32.toInt_inj.mp h)))))))
  · exact Or.inr (Or.inr (Or.inr (Or.inr (Or.inr (Or.inr (Or.inr (Or.inl (Int32.toInt_inj.mp h))))))))
  · exact Or.inr (Or.inr (Or.inr (Or.inr (Or.inr (Or.inr (Or.inr (Or.inr (Or.inl (Int32.toInt_inj.mp h)))))))))
  · exact Or.inr (Or.inr (Or.inr (Or.inr (Or.inr (Or.inr (Or.inr (Or.inr (Or.inr (Or.inl (Int32.toInt_inj.mp h))))))))))
  · exact Or.inr (Or.inr (Or.inr (Or.inr (Or.inr (Or.inr (Or.inr (Or.inr (Or.inr (Or.inr (Or.inl (Int32.toInt_inj.mp h)))))))))))
  · exact Or.inr (Or.inr (Or.inr (Or.inr (Or.inr (Or.inr (Or.inr (Or.inr (Or.inr (Or.inr (Or.inr (Or.inl (Int32.toInt_inj.mp h))))))))))))
  · exact Or.inr (Or.inr (Or.inr (Or.inr (Or.inr (Or.inr (Or.inr (Or.inr (Or.inr (Or.inr (Or.inr (Or.inr (Or.inl (Int32.toInt_inj.mp h)))))))))))))
  · exact Or.inr (Or.inr (Or.inr (Or.inr (Or.inr (Or.inr (Or.inr (Or.inr (Or.inr (Or.inr (Or.inr (Or.inr (Or.inr ((Int32.toInt_inj.mp h))))))))))))))
theorem tsw14 (x : Int32) : (x.toInt < 0 ∨ 14 < x.toInt) ∨ x = 0 ∨ x = 1 ∨ x = 2 ∨ x = 3 ∨ x = 4 ∨ x = 5 ∨ x = 6 ∨ x = 7 ∨ x = 8 ∨ x = 9 ∨ x = 10 ∨ x = 11 ∨ x = 12 ∨ x = 13 ∨ x = 14 := by
  have h : (x.toInt < 0 ∨ 14 < x.toInt) ∨ x.toInt = 0 ∨ x.toInt = 1 ∨ x.toInt = 2 ∨ x.toInt = 3 ∨ x.toInt = 4 ∨ x.toInt = 5 ∨ x.toInt = 6 ∨ x.toInt = 7 ∨ x.toInt = 8 ∨ x.toInt = 9 ∨ x.toInt = 10 ∨ x.toInt = 11 ∨ x.toInt = 12 ∨ x.toInt = 13 ∨ x.toInt = 14 := by omega
  rcases h with h | h | h | h | h | h | h | h | h | h | h | h | h | h | h | h
  · exact Or.inl h
  · exact Or.inr (Or.inl (Int32.toInt_inj.mp h))
  · exact Or.inr (Or.inr (Or.inl (Int32.toInt_inj.mp h)))
  · exact Or.inr (Or.inr (Or.inr (Or.inl (Int32.toInt_inj.mp h))))
  · exact Or.inr (Or.inr (Or.inr (Or.inr (Or.inl (Int32.toInt_inj.mp h)))))
  · exact Or.inr (Or.inr (Or.inr (Or.inr (Or.inr (Or.inl (Int32.toInt_inj.mp h))))))
  · exact Or.inr (Or.inr (Or.inr (Or.inr (Or.inr (Or.inr (Or.inl (Int32.toInt_inj.mp h)))))))
  · exact Or.inr (Or.inr (Or.inr (Or.inr (Or.inr (Or.inr (Or.inr (Or.inl (Int32.toInt_inj.mp h))))))))
  · exact Or.inr (Or.inr (Or.inr (Or.inr (Or.inr (Or.inr (Or.inr (Or.inr (Or.inl (Int32.toInt_inj.mp h)))))))))
  · exact Or.inr (Or.inr (Or.inr (Or.inr (Or.inr (Or.inr (Or.inr (Or.inr (Or.inr (Or.inl (Int32.toInt_inj.mp h))))))))))
  · exact Or.inr (Or.inr (Or.inr (Or.inr (Or.inr (Or.inr (Or.inr (Or.inr (Or.inr (Or.inr (Or.inl (Int32.toInt_inj.mp h)))))))))))
  · exact Or.inr (Or.inr (Or.inr (Or.inr (Or.inr (Or.inr (Or.inr (Or.inr (Or.inr (Or.inr (Or.inr (Or.inl (Int32.toInt_inj.mp h))))))))))))
  · exact Or.inr (Or.inr (Or.inr (Or.inr (Or.inr (Or.inr (Or.inr (Or.inr (Or.inr (Or.inr (Or.inr (Or.inr (Or.inl (Int32.toInt_inj.mp h)))))))))))))
  · exact Or.inr (Or.inr (Or.inr (Or.inr (Or.inr (Or.inr (Or.inr (Or.inr (Or.inr (Or.inr (Or.inr (Or.inr (Or.inr (Or.inl (Int32.toInt_inj.mp h))))))))))))))
  · exact Or.inr (Or.inr (Or.inr (Or.inr (Or.inr (Or.inr (Or.inr (Or.inr (Or.inr (Or.inr (Or.inr (Or.inr (Or.inr (Or.inr (Or.inl (Int32.toInt_inj.mp h)))))))))))))))
  · exact Or.inr (Or.inr (Or.inr (Or.inr (Or.inr (Or.inr (Or.inr (Or.inr (Or.inr (Or.inr (Or.inr (Or.inr (Or.inr (Or.inr (Or.inr ((Int32.toInt_inj.mp h))))))))))))))))
def fEnd (n : Int32) : Int32 := if n < 0 ∨ 0 < n then 0 else 1
def fFau (n : Int32) : Int32 := if n = 0 ∨ n = 2 then 0 else -1
def fRun (n : Int32) : Int32 := if n < 0 ∨ 20000 < n then -1 else 0
def fAbo (n : Int32) : Int32 := if n < 0 ∨ 14 < n ∨ n = 11 ∨ n = 12 then -1 else 0
def fRes (w : Int64) : Int32 := if lg_cmp w 0 < 0 ∨ ¬ lg_cmp w 4000000000000000000 ≤ 0 then 7 else 1
theorem va_P_init {D : va_G} {cl : List vw_C} {ws w2 : va_W} {H : Heap} (h : va_P D cl (ws ++ w2) H) : va_P D cl ws H := fun k q hk => h k q (by rw [List.getElem?_append_left (List.getElem?_eq_some_iff.mp hk).1]; exact hk)
theorem va_D_init {A : Nat → Prop} {ws w2 : va_W} (h : va_D A (ws ++ w2)) : va_D A ws := by
  have up : ∀ (k : Nat) (q : Nat × va_E), ws[k]? = some q → (ws ++ w2)[k]? = some q := fun k q hk => by rw [List.getElem?_append_left (List.getElem?_eq_some_iff.mp hk).1]; exact hk
  exact ⟨fun i j p q h1 h2 h3 => h.1 i j p q (up i p h1) (up j q h2) h3, fun k q hk => h.2 k q (up k q hk)⟩
def raA (U : State) (cA : ClassId) : Prop := ∃ (kA : Class) (comp : ClassId), U.vm.classes[cA]? = some kA ∧ kA.kind = .array comp (.array .int) ∧ U.vm.findClass (FieldType.array .int).toString = some comp
section XA
variable {p : Program} {l : Launch} {e : Env} {R : Room} {s : State} {m : MethodId} {args : Array Value} {below : List Frame} {meth : Method} {c : Code} {H : Heap} {locs : List Loc} {cells slots : Nat} {Q : State → Prop}
variable {cc : ByteArray} {pc : Nat} {ls : Array Slot} {rest : List Value} {D : va_G} {cl : List vw_C} {A : Nat → Prop} {a : Nat} {tys : List (ClassId × FieldType)} {ws : va_W} {H0 : Heap}
theorem anA (hexec : p.tables.exec = Jvm.exec) (hb : c.code = cc) {own : String} {index : Nat} (hown : s.vm.findClass own = some m.cls) (hclink : (Cond.classLink own index "[I").before args s = true) (hover : aoI s) (hK : va_K D cl tys s) (hP : va_P D cl ws H) (hD : va_D A ws) (hS : va_S A H0 H locs) (hA : ∀ q, H0.size ≤ q → A q)
    {n : Int32} {N' : Nat} (hn : ¬ n < 0) (hN : n.toNatClampNeg = N') (hbytes : N' * 4 ≤ 536870912) (hcells : cells + 1 ≤ R.cells) (hslots : slots + N' ≤ R.slots) (hdg : decode cc pc = .ok (.anewarray index, 3))
    (kk : ∀ (q : Nat) (cA : ClassId) (H1 : Heap), va_K D cl (tys ++ [(cA, .array .int)]) s → raA s cA → va_P D cl (ws ++ [(q, .inl (cA, N', .inr (.inr (.inr (.inr (fun _ => none))))))]) H1 → va_D A (ws ++ [(q, .inl (cA, N', .inr (.inr (.inr (.inr (fun _ => none))))))]) → va_S A H0 H1 locs →
      W p l e R s m args below meth c H1 locs (cells + 1) (slots + N') Q (F0 m (pc + 3) ls (.ref q :: rest))) : W p l e R s m args below meth c H locs cells slots Q (F0 m pc ls (.int n :: rest)) := by
  subst hN
  refine W.anewA (t := .int) hexec hb hown hclink (aoI.use hover) rfl hdg rfl hn hbytes hcells hslots fun cA kA comp f1 f2 f3 f4 => ?_
  generalize hH1 : H.push ({ cls := cA, slots := Array.replicate n.toNatClampNeg .null, vm := .none } : Cell) = H1
  have z1 : H1.size = H.size + 1 := by rw [← hH1, Array.size_push]
  have e1 : H1[H.size]? = some (arrV cA n.toNatClampNeg (fun _ => .null)) := by rw [← hH1, Array.getElem?_push_size, ← arrV_new]
  have o1 : ∀ q : Nat, q < H.size → H1[q]? = H[q]? := fun q hq => by rw [← hH1, Array.getElem?_push, if_neg (Nat.ne_of_lt hq)]
  have hAr : ArrOfT s cA (.array .int) := fun N z => ⟨(fun k h => by cases h), kA, f2, comp, f3⟩
  have hk : ∀ (k : Nat) (x : Nat × va_E), ws[k]? = some x → H1[x.1]? = H[x.1]? := fun k x hx => o1 x.1 ((hP k x hx).lt)
  refine kk H.size cA H1 ⟨hK.1, fun k x hx => ?_⟩ ⟨kA, comp, f2, f3, f4⟩ ((hP.kept hk).app (fun k x hx => ?_)) (hD.push hP rfl (hA _ hS.1)) ⟨Nat.le_trans hS.1 (by omega), fun x h1 h2 => (o1 x (Nat.lt_of_lt_of_le h1 hS.1)).trans (hS.2.1 x h1 h2), hS.2.2⟩
  · by_cases hl : k < tys.length
    · rw [List.getElem?_append_left hl] at hx
      exact hK.2 k x hx
    · rw [List.getElem?_append_right (by omega)] at hx
      have hz : k - tys.length < 1 := (List.getElem?_eq_some_iff.mp hx).1
      rw [show k - tys.length = 0 by omega] at hx
      cases hx
      exact ⟨hAr, f1⟩
  · have hz : k < 1 := (List.getElem?_eq_some_iff.mp hx).1
    rw [show k = 0 by omega] at hx
    cases hx
    show H1[H.size]? = some (vp_cell _ _)
    rw [vp_cell_q]
    exact e1
theorem astA (hexec : p.tables.exec = Jvm.exec) (hb : c.code = cc) (hK : va_K D cl tys s) (hP : va_P D cl ws H) (hD : va_D A ws) (hS : va_S A H0 H locs) {cA cB : ClassId} (hR : raA s cA) (q0 qk tk : Nat) {n nB v : Nat} {f : Nat → Option Nat} {fb : Nat → Int32} (ha : ws[q0]? = some (a, .inl (cA, n, .inr (.inr (.inr (.inr f)))))) (hv : ws[qk]? = some (v, .inl (cB, nB, .inl fb))) (htk : tys[tk]? = some (cB, .int)) {i : Int32} (hin : vp_in i n) (hdg : decode cc pc = .ok (.aastore, 1))
    (kk : ∀ (H1 : Heap) (locs1 : List Loc), va_P D cl (ws.set q0 (a, .inl (cA, n, .inr (.inr (.inr (.inr (va_up f i.toNatClampNeg (some v)))))))) H1 → va_D A (ws.set q0 (a, .inl (cA, n, .inr (.inr (.inr (.inr (va_up f i.toNatClampNeg (some v)))))))) → va_S A H0 H1 locs1 → W p l e R s m args below meth c H1 locs1 cells slots Q (F0 m (pc + 1) ls rest)) : W p l e R s m args below meth c H locs cells slots Q (F0 m pc ls (.ref v :: .int i :: .ref a :: rest)) := by
  have hlt : i.toNatClampNeg < n := Nat.not_le.mp fun q => hin (Or.inr q)
  have h0 : ¬ i < 0 := fun q => hin (Or.inl q)
  obtain ⟨kA, comp, k1, k2, k3⟩ := hR
  have hcB : s.vm.findClass (FieldType.array .int).toString = some cB := (hK.2 tk _ htk).2
  have hcomp : comp = cB := Option.some.inj (k3.symm.trans hcB)
  subst hcomp
  obtain ⟨kC, hkC, -⟩ := Vm.findClass_spec k3
  refine W.aast hexec hb (hP q0 _ ha) (fun q h => by cases h) (fun h => by cases h) k1 k2 rfl hkC ⟨h0, by show _ < (arrV _ _ _).slots.size; rw [arrV_size]; exact hlt⟩ (hP qk _ hv) (fun q h => by cases h) hkC (va_asg _ _) rfl rfl hdg fun H1 e z oq => ?_
  refine kk H1 _ (hP.set hD ha ?_ oq) (hD.set ha) (hS.put z oq (hD.2 q0 _ ha))
  show H1[a]? = some (vp_cell _ _)
  rw [e]
  rw [vp_cell_q, vp_cell_q, arrV_store]
  congr 2
  funext q
  by_cases hq : q = i.toNatClampNeg
  · subst hq
    simp [updV, va_up, va_rf]
  · simp [updV, va_up, hq]
theorem aldA (hexec : p.tables.exec = Jvm.exec) (hb : c.code = cc) (hK : va_K D cl tys s) (hP : va_P D cl ws H) (q0 t0 : Nat) {cA : ClassId} {n : Nat} {f : Nat → Option Nat} (ha : ws[q0]? = some (a, .inl (cA, n, .inr (.inr (.inr (.inr f)))))) (ht : tys[t0]? = some (cA, .array .int)) {i : Int32} (hin : vp_in i n) {v : Value} (hv : va_rf (f i.toNatClampNeg) = v) (hdg : decode cc pc = .ok (.aaload, 1))
    (kk : W p l e R s m args below meth c H locs cells slots Q (F0 m (pc + 1) ls (v :: rest))) : W p l e R s m args below meth c H locs cells slots Q (F0 m pc ls (.int i :: .ref a :: rest)) := by
  subst hv
  have hlt : i.toNatClampNeg < n := Nat.not_le.mp fun q => hin (Or.inr q)
  exact W.aald (v := va_rf (f i.toNatClampNeg)) (ty := .array .int) hexec hb (hP q0 _ ha) ((hK.2 t0 _ ht).1 n (fun j => va_rf (f j))) rfl (fun q => by cases q) (by show ¬ (i < 0 ∨ (arrV _ _ _).slots.size ≤ _); rw [arrV_size]; exact hin) (by show (arrV _ _ _).slots[_]? = _; rw [arrV_read _ _ hlt]) rfl rfl hdg kk
theorem naS (hexec : p.tables.exec = Jvm.exec) (hb : c.code = cc) (harr : (Cond.arrayClass .int).before args s = true) (hK : va_K D cl tys s) (hP : va_P D cl ws H) (hD : va_D A ws) (hS : va_S A H0 H locs) (hA : ∀ q, H0.size ≤ q → A q) {cA : ClassId} (hR : raA s cA) (q0 : Nat) {n0 : Nat} {f : Nat → Option Nat} (ha : ws[q0]? = some (a, .inl (cA, n0, .inr (.inr (.inr (.inr f))))))
    {n i : Int32} {N' : Nat} (hn : ¬ n < 0) (hN : n.toNatClampNeg = N') (hbytes : N' * componentBytes .int ≤ 536870912) (hcells : cells + 1 ≤ R.cells) (hslots : slots + N' ≤ R.slots) (hin : vp_in i n0) (hdg : decode cc pc = .ok (.newarray .int, 2)) (hdg2 : decode cc (pc + 2) = .ok (.aastore, 1))
    (kk : ∀ (f1 : Nat → Option Nat) (H1 : Heap) (locs1 : List Loc), va_P D cl (ws.set q0 (a, .inl (cA, n0, .inr (.inr (.inr (.inr f1)))))) H1 → va_D A (ws.set q0 (a, .inl (cA, n0, .inr (.inr (.inr (.inr f1)))))) → va_S A H0 H1 locs1 → W p l e R s m args below meth c H1 locs1 (cells + 1) (slots + N') Q (F0 m (pc + 3) ls rest)) : W p l e R s m args below meth c H locs cells slots Q (F0 m pc ls (.int n :: .int i :: .ref a :: rest)) := by
  refine va_newa (atype := .int) (a0 := (N', .inl (fun _ => 0))) (N' := N') (ty := .int) hexec hb harr rfl hK hP hD hS hA (fun _ => rfl) hn hN hbytes hcells hslots hdg (fun q cB H1 hK1 hP1 hD1 hS1 => ?_)
  have hlt : q0 < ws.length := (List.getElem?_eq_some_iff.mp ha).1
  refine astA hexec hb hK1 hP1 hD1 hS1 hR q0 ws.length tys.length (by rw [List.getElem?_append_left hlt]; exact ha) (by rw [List.getElem?_append_right (Nat.le_refl _), Nat.sub_self]; rfl) (by rw [List.getElem?_append_right (Nat.le_refl _), Nat.sub_self]; rfl) hin hdg2 (fun H2 locs2 hP2 hD2 hS2 => ?_)
  rw [List.set_append_left _ _ hlt] at hP2 hD2
  exact kk (va_up f i.toNatClampNeg (some q)) H2 locs2 (va_P_init hP2) (va_D_init hD2) hS2
end XA
def pX (D : va_G) (sz : Nat) (ws : va_W) (tys : List (ClassId × FieldType)) (U : State) : Prop := U.heap.size = sz ∧ va_P D vwCl ws U.heap ∧ va_K D vwCl tys U ∧ va_D (fun _ => True) ws ∧ nw U
def qX (D : va_G) (ws : va_W) (tys : List (ClassId × FieldType)) (A : Nat → Prop) (t : State) : Prop := va_P D vwCl ws t.heap ∧ va_K D vwCl tys t ∧ va_D A ws
theorem pX_blind {D : va_G} {sz : Nat} {ws : va_W} {tys : List (ClassId × FieldType)} {av : List Value} : FrameBlind (va_Pc av (pX D sz ws tys)) := fun a U g mk q => by
  obtain ⟨q0, q1, qP, qK, qD, qN⟩ := q
  exact ⟨q0, q1, qP, va_K.moved (u := U) (U := U.calling g mk a) (Vm.Alike.refl U.vm) qK, qD, nw_same (u := U) (U := U.calling g mk a) rfl qN⟩
theorem pX_at {D : va_G} {ws : va_W} {tys : List (ClassId × FieldType)} {av : List Value} {A : Nat → Prop} {s : State} {H : Heap} (hP : va_P D vwCl ws H) (hK : va_K D vwCl tys s) (hD : va_D A ws) (hN : nw s) : ∀ U : State, U.heap = H → s.WarmedH U.vm → va_Pc av (pX D H.size ws tys) av.toArray U := fun U hU hW => ⟨rfl, by rw [hU], by rw [hU]; exact hP, va_K.moved hW.alike hK, hD.weaken (fun _ _ _ _ => trivial), nw_warm hW hN⟩
theorem inI {i : Int32} {n : Nat} (h : decide (¬ (i < 0 ∨ n ≤ i.toNatClampNeg)) = true) : vp_in i n := show ¬ (i < 0 ∨ n ≤ i.toNatClampNeg) from of_decide_eq_true h
theorem mapf {α : Type} {is : List Nat} {ws wc : List α} (h : is.map (fun i => ws[i]?) = wc.map some) : is.filterMap (fun i => ws[i]?) = wc := by
  have h1 : is.filterMap (fun i => ws[i]?) = (is.map (fun i => ws[i]?)).filterMap id := by
    rw [List.filterMap_map]; rfl
  rw [h1, h, List.filterMap_map]
  exact List.filterMap_some
section XW
variable {p : Program} {l : Launch} {e : Env} {R : Room} {s : State} {m : MethodId} {args : Array Value} {below : List Frame} {meth : Method} {c : Code} {H : Heap} {locs : List Loc} {cells slots : Nat} {Q : State → Prop}
variable {cc : ByteArray} {pc : Nat} {ls : Array Slot} {rest : List Value} {D : va_G} {cl : List vw_C} {A : Nat → Prop} {a : Nat} {tys : List (ClassId × FieldType)} {ws : va_W} {H0 : Heap}
theorem lv_is {x : Int32} (y : Int32) (h : x = y) (k : W p l e R s m args below meth c H locs cells slots Q (F0 m pc ls (.int y :: rest))) : W p l e R s m args below meth c H locs cells slots Q (F0 m pc ls (.int x :: rest)) := by
  subst h; exact k
theorem naX (hexec : p.tables.exec = Jvm.exec) (hb : c.code = cc) {atype : ArrayType} (harr : (Cond.arrayClass (newarray.typeOf atype)).before args s = true) {n : Int32} {N' k2 n2 : Nat} (hn : ¬ n < 0) (hN : n.toNatClampNeg = N') (hbytes : N' * componentBytes (newarray.typeOf atype) ≤ 536870912) (hcells : cells + 1 ≤ R.cells) (hslots : slots + N' ≤ R.slots) (e1 : cells + 1 = k2) (e2 : slots + N' = n2) (hdg : decode cc pc = .ok (.newarray atype, 2)) (hP : va_P D cl ws H) (hD : va_D A ws) (hS : va_S A H0 H locs)
    (kk : ∀ (q : Nat) (H1 : Heap), va_P D cl ws H1 → va_D A ws → va_S A H0 H1 locs → W p l e R s m args below meth c H1 locs k2 n2 Q (F0 m (pc + 2) ls (.ref q :: rest))) : W p l e R s m args below meth c H locs cells slots Q (F0 m pc ls (.int n :: rest)) := by
  subst e1; subst e2
  refine va_newaK hexec hb harr rfl hdg rfl hn hN hbytes hcells hslots rfl fun H1 cA e1 z1 o1 hAr hNm => ?_
  exact kk H.size H1 (hP.kept fun k x hx => o1 x.1 ((hP k x hx).lt)) hD ⟨Nat.le_trans hS.1 (by omega), fun x h1 h2 => (o1 x (Nat.lt_of_lt_of_le h1 hS.1)).trans (hS.2.1 x h1 h2), hS.2.2⟩
theorem ia_any (hexec : p.tables.exec = Jvm.exec) (hb : c.code = cc) (hK : va_K D cl tys s) (hP : va_P D cl ws H) (hD : va_D A ws) (hS : va_S A H0 H locs) (q0 t0 : Nat) {cA : ClassId} {n : Nat} {f : Nat → Int32} (ha : ws[q0]? = some (a, .inl (cA, n, .inl f))) (ht : tys[t0]? = some (cA, .int)) {i : Int32} {x : Int32} (hin : vp_in i n) (hdg : decode cc pc = .ok (.iastore, 1))
    (kk : ∀ (f1 : Nat → Int32) (H1 : Heap) (locs1 : List Loc), va_P D cl (ws.set q0 (a, .inl (cA, n, .inl f1))) H1 → va_D A (ws.set q0 (a, .inl (cA, n, .inl f1))) → va_S A H0 H1 locs1 → W p l e R s m args below meth c H1 locs1 cells slots Q (F0 m (pc + 1) ls rest)) : W p l e R s m args below meth c H locs cells slots Q (F0 m pc ls (.int x :: .int i :: .ref a :: rest)) := va_iast hexec hb hK hP hD hS q0 t0 ha ht hin hdg (fun H1 l1 => kk _ H1 l1)
theorem ba_any (hexec : p.tables.exec = Jvm.exec) (hb : c.code = cc) (hK : va_K D cl tys s) (hP : va_P D cl ws H) (hD : va_D A ws) (hS : va_S A H0 H locs) (q0 t0 : Nat) {cA : ClassId} {n : Nat} {f : Nat → Int32} (ha : ws[q0]? = some (a, .inl (cA, n, .inl f))) (ht : tys[t0]? = some (cA, .byte)) {i : Int32} {x : Int32} (hin : vp_in i n) (hdg : decode cc pc = .ok (.bastore, 1))
    (kk : ∀ (f1 : Nat → Int32) (H1 : Heap) (locs1 : List Loc), va_P D cl (ws.set q0 (a, .inl (cA, n, .inl f1))) H1 → va_D A (ws.set q0 (a, .inl (cA, n, .inl f1))) → va_S A H0 H1 locs1 → W p l e R s m args below meth c H1 locs1 cells slots Q (F0 m (pc + 1) ls rest)) : W p l e R s m args below meth c H locs cells slots Q (F0 m pc ls (.int x :: .int i :: .ref a :: rest)) := va_bast hexec hb hK hP hD hS q0 t0 ha ht hin hdg (fun H1 l1 => kk _ H1 l1)
theorem za_any (hexec : p.tables.exec = Jvm.exec) (hb : c.code = cc) (hK : va_K D cl tys s) (hP : va_P D cl ws H) (hD : va_D A ws) (hS : va_S A H0 H locs) (q0 t0 : Nat) {cA : ClassId} {n : Nat} {f : Nat → Int32} (ha : ws[q0]? = some (a, .inl (cA, n, .inl f))) (ht : tys[t0]? = some (cA, .boolean)) {i : Int32} {x : Int32} (hin : vp_in i n) (hdg : decode cc pc = .ok (.bastore, 1))
    (kk : ∀ (f1 : Nat → Int32) (H1 : Heap) (locs1 : List Loc), va_P D cl (ws.set q0 (a, .inl (cA, n, .inl f1))) H1 → va_D A (ws.set q0 (a, .inl (cA, n, .inl f1))) → va_S A H0 H1 locs1 → W p l e R s m args below meth c H1 locs1 cells slots Q (F0 m (pc + 1) ls rest)) : W p l e R s m args below meth c H locs cells slots Q (F0 m pc ls (.int x :: .int i :: .ref a :: rest)) := va_zast hexec hb hK hP hD hS q0 t0 ha ht hin hdg (fun H1 l1 => kk _ H1 l1)
theorem cp_any (hexec : p.tables.exec = Jvm.exec) (hb : c.code = cc) (hml : c.maxLocals = ls.size) {own : String} {index : Nat} (hown : s.vm.findClass own = some m.cls) (hlink : (Cond.methodLink own index arraycopyName).before args s = true) (hnat : (Cond.native arraycopyName).before args s = true) (hstat : (Cond.static arraycopyName).before args s = true) (hini : (Cond.initialized "java/lang/System").before args s = true)
    (hK : va_K D cl tys s) (hP : va_P D cl ws H) (hD : va_D A ws) (hS : va_S A H0 H locs) (q0 q1 t0 t1 : Nat) {a0 : Nat} {c0 c1 : ClassId} {n0 n1 : Nat} {f g : Nat → Int32} {ty : FieldType} (ha0 : ws[q0]? = some (a0, .inl (c0, n0, .inl f))) (ha1 : ws[q1]? = some (a, .inl (c1, n1, .inl g))) (ht0 : tys[t0]? = some (c0, ty)) (ht1 : tys[t1]? = some (c1, ty)) (hprim : refKind ty = false)
    {sp dp n : Int32} (h1 : ¬ sp < 0) (h2 : ¬ dp < 0) (h3 : ¬ n < 0) (h4 : sp.toNatClampNeg + n.toNatClampNeg ≤ n0) (h5 : dp.toNatClampNeg + n.toNatClampNeg ≤ n1) (hfit : ∀ i, i < n.toNatClampNeg → fits ty (.int (f (sp.toNatClampNeg + i))) = true)
    (hframes : 1 ≤ R.frames) (hlocals : (rest.map fun v => v.category).sum + (nativeFrameWords "java/lang/System" "arraycopy" 5 + 11) ≤ R.locals) (hdg : decode cc pc = .ok (.invokestatic index, 3))
    (kk : ∀ (f1 : Nat → Int32) (H1 : Heap) (locs1 : List Loc), va_P D cl (ws.set q1 (a, .inl (c1, n1, .inl f1))) H1 → va_D A (ws.set q1 (a, .inl (c1, n1, .inl f1))) → va_S A H0 H1 locs1 → W p l e R s m args below meth c H1 locs1 cells slots Q (F0 m (pc + 3) ls rest)) : W p l e R s m args below meth c H locs cells slots Q (F0 m pc ls (.int n :: .int dp :: .ref a :: .int sp :: .ref a0 :: rest)) := va_copyi hexec hb hml hown hlink hnat hstat hini hK hP hD hS q0 q1 t0 t1 ha0 ha1 ht0 ht1 hprim h1 h2 h3 h4 h5 hfit hframes hlocals hdg (fun H1 l1 => kk _ H1 l1)
variable {nL : Nat} {st As : List Value} {b : Nat} {tc : List (ClassId × FieldType)} {wc wr : va_W} {own : String} {index : Nat} {y : MethodName} {bytes : ByteArray} {maxL mc ms n fr lo : Nat} {Z : Type} {w1 : Z → va_W} {t1 : Z → List (ClassId × FieldType)} {ci : Nat} {fs : List Value} {T : u_T} {N : Nat} {ret : Option FieldType}
theorem xV_v {post : Z → Prop} (S : CallFix p m c cc nL s args wB own) (hM : Met l y (Cond.code y bytes maxL none :: wB) { frames := fr, cells := mc, slots := ms, locals := lo } (va_Pc (.ref b :: As) (pX D H.size wc tc)) (va_Qv post (fun z t => qX D (w1 z) (t1 z) (va_A wc H.size) t) (va_A wc H.size)) mc ms (va_A wc H.size)) (hk : Cond.methodLink own index y ∈ wB ∧ Cond.instanceMethod y ∈ wB ∧ Cond.selects y.cls y y ∈ wB ∧ Cond.initialized y.cls ∈ wB ∧ Cond.code y bytes maxL none ∈ wB) (hd : y.cls ≠ "java/lang/invoke/MethodHandle" ∧ y.cls ≠ "java/lang/invoke/VarHandle" ∧ (parseMethodDescriptor y.desc).map (fun d => d.parameters.length) = some n) (hn : As.length = n) (hR : fr + 1 ≤ R.frames ∧ 8 + (maxL + 11) + lo ≤ R.locals) (hf : cells + mc ≤ R.cells ∧ slots + ms ≤ R.slots) (hK : va_K D vwCl tys s) (hP : va_P D vwCl ws H) (hD : va_D A ws) (hS : va_S A H0 H locs) (hA : ∀ q, H0.size ≤ q → A q) (hN : nw s) (isC isR isT : List Nat) (hC : isC.map (fun i => ws[i]?) = wc.map some) (hRr : isR.map (fun i => ws[i]?) = wr.map some) (hnd : va_nd isC = true ∧ va_nd isR = true) (hdis : ∀ i ∈ isR, i ∉ isC) (hT : isT.filterMap (fun i => tys[i]?) = tc) (q0 : Nat) (hq : wc[q0]? = some (b, .inr (ci, fs))) (hc : vwCl[ci]? = some (y.cls, T, N)) (hsz : ls.size = nL) (hst : st = As.reverse ++ .ref b :: rest) (hrm : (rest.map fun v => v.category).sum ≤ 8) (hdg : decode cc pc = .ok (.invokevirtual index, 3))
    (kk : ∀ (z : Z) (H1 : Heap) (locs1 : List Loc), post z → va_K D vwCl (tys ++ t1 z) s → va_P D vwCl (wr ++ w1 z) H1 → va_D A (wr ++ w1 z) → va_S A H0 H1 locs1 → W p l e R s m args below meth c H1 locs1 (cells + mc) (slots + ms) Q (F0 m (pc + 3) ls rest)) : W p l e R s m args below meth c H locs cells slots Q (F0 m pc ls st) := by
  subst hst
  obtain ⟨hk1, hk2, hk3, hk4, hk5⟩ := hk
  have hPc := hP.sub (ws' := wc) isC (mapf hC)
  have hDc := hD.sub (ws' := wc) isC hnd.1 hC
  have hKc := hK.sub (tys' := tc) isT hT
  have hFc := va_free (wc := wc) hD hS hA isC hC
  have hts := S.2.2.2.2
  refine va_callv (va_runV (As := As) (rest := rest) S hM ⟨callB_of n hts (gB hk5) rfl rfl rfl (hts _ hk4) (hts _ hk1) hd hR, hts _ hk2, hts _ hk3⟩ ⟨pX_blind, va_recv hKc hPc (ci := ci) (q0 := q0) hc hq, pX_at hPc hKc hDc hN⟩ rfl hn hsz rfl (lv_room hrm) hdg hf) hS (fun q _ h => hFc q h) hFc (fun u t H1 locs ht hvm hw hB hz1 hk1 hS => ?_)
  obtain ⟨hP1, hK1, hD1⟩ := hB
  rw [ht] at hP1
  have hK1 := va_K.moved hvm.symm hK1
  obtain ⟨hP2, hD2⟩ := va_join (wr := wr) (w1 := w1 u) hP hD isC isR hC hRr hnd.2 hdis hk1 hFc hP1 hD1
  exact kk u H1 locs hw (hK.app hK1) hP2 hD2 hS
theorem xV_i {post : Int32 → Z → Prop} (S : CallFix p m c cc nL s args wB own) (hM : Met l y (Cond.code y bytes maxL ret :: wB) { frames := fr, cells := mc, slots := ms, locals := lo } (va_Pc (.ref b :: As) (pX D H.size wc tc)) (va_Qi post (fun z t => qX D (w1 z) (t1 z) (va_A wc H.size) t) (va_A wc H.size)) mc ms (va_A wc H.size)) (hk : Cond.methodLink own index y ∈ wB ∧ Cond.instanceMethod y ∈ wB ∧ Cond.selects y.cls y y ∈ wB ∧ Cond.initialized y.cls ∈ wB ∧ Cond.code y bytes maxL ret ∈ wB) (hd : y.cls ≠ "java/lang/invoke/MethodHandle" ∧ y.cls ≠ "java/lang/invoke/VarHandle" ∧ (parseMethodDescriptor y.desc).map (fun d => d.parameters.length) = some n) (hn : As.length = n) (hR : fr + 1 ≤ R.frames ∧ 8 + (maxL + 11) + lo ≤ R.locals) (hf : cells + mc ≤ R.cells ∧ slots + ms ≤ R.slots) (hK : va_K D vwCl tys s) (hP : va_P D vwCl ws H) (hD : va_D A ws) (hS : va_S A H0 H locs) (hA : ∀ q, H0.size ≤ q → A q) (hN : nw s) (isC isR isT : List Nat) (hC : isC.map (fun i => ws[i]?) = wc.map some) (hRr : isR.map (fun i => ws[i]?) = wr.map some) (hnd : va_nd isC = true ∧ va_nd isR = true) (hdis : ∀ i ∈ isR, i ∉ isC) (hT : isT.filterMap (fun i => tys[i]?) = tc) (q0 : Nat) (hq : wc[q0]? = some (b, .inr (ci, fs))) (hc : vwCl[ci]? = some (y.cls, T, N)) (hsz : ls.size = nL) (hst : st = As.reverse ++ .ref b :: rest) (hrm : (rest.map fun v => v.category).sum ≤ 8) (hdg : decode cc pc = .ok (.invokevirtual index, 3))
    (kk : ∀ (r : Int32) (z : Z) (H1 : Heap) (locs1 : List Loc), post r z → va_K D vwCl (tys ++ t1 z) s → va_P D vwCl (wr ++ w1 z) H1 → va_D A (wr ++ w1 z) → va_S A H0 H1 locs1 → W p l e R s m args below meth c H1 locs1 (cells + mc) (slots + ms) Q (F0 m (pc + 3) ls (.int r :: rest))) : W p l e R s m args below meth c H locs cells slots Q (F0 m pc ls st) := by
  subst hst
  obtain ⟨hk1, hk2, hk3, hk4, hk5⟩ := hk
  have hPc := hP.sub (ws' := wc) isC (mapf hC)
  have hDc := hD.sub (ws' := wc) isC hnd.1 hC
  have hKc := hK.sub (tys' := tc) isT hT
  have hFc := va_free (wc := wc) hD hS hA isC hC
  have hts := S.2.2.2.2
  refine va_calli (va_runV (As := As) (rest := rest) S hM ⟨callB_of n hts (gB hk5) rfl rfl rfl (hts _ hk4) (hts _ hk1) hd hR, hts _ hk2, hts _ hk3⟩ ⟨pX_blind, va_recv hKc hPc (ci := ci) (q0 := q0) hc hq, pX_at hPc hKc hDc hN⟩ rfl hn hsz rfl (lv_room hrm) hdg hf) hS (fun q _ h => hFc q h) hFc (fun r u t H1 locs ht hvm hw hB hz1 hk1 hS => ?_)
  obtain ⟨hP1, hK1, hD1⟩ := hB
  rw [ht] at hP1
  have hK1 := va_K.moved hvm.symm hK1
  obtain ⟨hP2, hD2⟩ := va_join (wr := wr) (w1 := w1 u) hP hD isC isR hC hRr hnd.2 hdis hk1 hFc hP1 hD1
  exact kk r u H1 locs hw (hK.app hK1) hP2 hD2 hS
theorem xV_l {post : Int64 → Z → Prop} (S : CallFix p m c cc nL s args wB own) (hM : Met l y (Cond.code y bytes maxL ret :: wB) { frames := fr, cells := mc, slots := ms, locals := lo } (va_Pc (.ref b :: As) (pX D H.size wc tc)) (va_Ql post (fun z t => qX D (w1 z) (t1 z) (va_A wc H.size) t) (va_A wc H.size)) mc ms (va_A wc H.size)) (hk : Cond.methodLink own index y ∈ wB ∧ Cond.instanceMethod y ∈ wB ∧ Cond.selects y.cls y y ∈ wB ∧ Cond.initialized y.cls ∈ wB ∧ Cond.code y bytes maxL ret ∈ wB) (hd : y.cls ≠ "java/lang/invoke/MethodHandle" ∧ y.cls ≠ "java/lang/invoke/VarHandle" ∧ (parseMethodDescriptor y.desc).map (fun d => d.parameters.length) = some n) (hn : As.length = n) (hR : fr + 1 ≤ R.frames ∧ 8 + (maxL + 11) + lo ≤ R.locals) (hf : cells + mc ≤ R.cells ∧ slots + ms ≤ R.slots) (hK : va_K D vwCl tys s) (hP : va_P D vwCl ws H) (hD : va_D A ws) (hS : va_S A H0 H locs) (hA : ∀ q, H0.size ≤ q → A q) (hN : nw s) (isC isR isT : List Nat) (hC : isC.map (fun i => ws[i]?) = wc.map some) (hRr : isR.map (fun i => ws[i]?) = wr.map some) (hnd : va_nd isC = true ∧ va_nd isR = true) (hdis : ∀ i ∈ isR, i ∉ isC) (hT : isT.filterMap (fun i => tys[i]?) = tc) (q0 : Nat) (hq : wc[q0]? = some (b, .inr (ci, fs))) (hc : vwCl[ci]? = some (y.cls, T, N)) (hsz : ls.size = nL) (hst : st = As.reverse ++ .ref b :: rest) (hrm : (rest.map fun v => v.category).sum ≤ 8) (hdg : decode cc pc = .ok (.invokevirtual index, 3))
    (kk : ∀ (r : Int64) (z : Z) (H1 : Heap) (locs1 : List Loc), post r z → va_K D vwCl (tys ++ t1 z) s → va_P D vwCl (wr ++ w1 z) H1 → va_D A (wr ++ w1 z) → va_S A H0 H1 locs1 → W p l e R s m args below meth c H1 locs1 (cells + mc) (slots + ms) Q (F0 m (pc + 3) ls (.long r :: rest))) : W p l e R s m args below meth c H locs cells slots Q (F0 m pc ls st) := by
  subst hst
  obtain ⟨hk1, hk2, hk3, hk4, hk5⟩ := hk
  have hPc := hP.sub (ws' := wc) isC (mapf hC)
  have hDc := hD.sub (ws' := wc) isC hnd.1 hC
  have hKc := hK.sub (tys' := tc) isT hT
  have hFc := va_free (wc := wc) hD hS hA isC hC
  have hts := S.2.2.2.2
  refine va_calll (va_runV (As := As) (rest := rest) S hM ⟨callB_of n hts (gB hk5) rfl rfl rfl (hts _ hk4) (hts _ hk1) hd hR, hts _ hk2, hts _ hk3⟩ ⟨pX_blind, va_recv hKc hPc (ci := ci) (q0 := q0) hc hq, pX_at hPc hKc hDc hN⟩ rfl hn hsz rfl (lv_room hrm) hdg hf) hS (fun q _ h => hFc q h) hFc (fun r u t H1 locs ht hvm hw hB hz1 hk1 hS => ?_)
  obtain ⟨hP1, hK1, hD1⟩ := hB
  rw [ht] at hP1
  have hK1 := va_K.moved hvm.symm hK1
  obtain ⟨hP2, hD2⟩ := va_join (wr := wr) (w1 := w1 u) hP hD isC isR hC hRr hnd.2 hdis hk1 hFc hP1 hD1
  exact kk r u H1 locs hw (hK.app hK1) hP2 hD2 hS
theorem xI_v {post : Z → Prop} (S : CallFix p m c cc nL s args wB own) (hM : Met l y (Cond.code y bytes maxL none :: wB) { frames := fr, cells := mc, slots := ms, locals := lo } (va_Pc (.ref b :: As) (pX D H.size wc tc)) (va_Qv post (fun z t => qX D (w1 z) (t1 z) (va_A wc H.size) t) (va_A wc H.size)) mc ms (va_A wc H.size)) (hk : Cond.methodLink own index y ∈ wB ∧ Cond.instanceMethod y ∈ wB ∧ Cond.initialized y.cls ∈ wB ∧ Cond.code y bytes maxL none ∈ wB) (hd : y.name = "<init>" ∧ y.cls ≠ "java/lang/invoke/MethodHandle" ∧ y.cls ≠ "java/lang/invoke/VarHandle" ∧ (parseMethodDescriptor y.desc).map (fun d => d.parameters.length) = some n) (hn : As.length = n) (hR : fr + 1 ≤ R.frames ∧ 8 + (maxL + 11) + lo ≤ R.locals) (hf : cells + mc ≤ R.cells ∧ slots + ms ≤ R.slots) (hK : va_K D vwCl tys s) (hP : va_P D vwCl ws H) (hD : va_D A ws) (hS : va_S A H0 H locs) (hA : ∀ q, H0.size ≤ q → A q) (hN : nw s) (isC isR isT : List Nat) (hC : isC.map (fun i => ws[i]?) = wc.map some) (hRr : isR.map (fun i => ws[i]?) = wr.map some) (hnd : va_nd isC = true ∧ va_nd isR = true) (hdis : ∀ i ∈ isR, i ∉ isC) (hT : isT.filterMap (fun i => tys[i]?) = tc) (hsz : ls.size = nL) (hst : st = As.reverse ++ .ref b :: rest) (hrm : (rest.map fun v => v.category).sum ≤ 8) (hdg : decode cc pc = .ok (.invokespecial index, 3))
    (kk : ∀ (z : Z) (H1 : Heap) (locs1 : List Loc), post z → va_K D vwCl (tys ++ t1 z) s → va_P D vwCl (wr ++ w1 z) H1 → va_D A (wr ++ w1 z) → va_S A H0 H1 locs1 → W p l e R s m args below meth c H1 locs1 (cells + mc) (slots + ms) Q (F0 m (pc + 3) ls rest)) : W p l e R s m args below meth c H locs cells slots Q (F0 m pc ls st) := by
  subst hst
  obtain ⟨hk1, hk2, hk4, hk5⟩ := hk
  have hPc := hP.sub (ws' := wc) isC (mapf hC)
  have hDc := hD.sub (ws' := wc) isC hnd.1 hC
  have hKc := hK.sub (tys' := tc) isT hT
  have hFc := va_free (wc := wc) hD hS hA isC hC
  have hts := S.2.2.2.2
  refine va_callv (va_runI (As := As) (rest := rest) S hM ⟨callB_of n hts (gB hk5) rfl rfl rfl (hts _ hk4) (hts _ hk1) hd.2 hR, hd.1, hts _ hk2⟩ ⟨pX_blind, pX_at hPc hKc hDc hN⟩ rfl hn hsz rfl (lv_room hrm) hdg hf) hS (fun q _ h => hFc q h) hFc (fun u t H1 locs ht hvm hw hB hz1 hk1 hS => ?_)
  obtain ⟨hP1, hK1, hD1⟩ := hB
  rw [ht] at hP1
  have hK1 := va_K.moved hvm.symm hK1
  obtain ⟨hP2, hD2⟩ := va_join (wr := wr) (w1 := w1 u) hP hD isC isR hC hRr hnd.2 hdis hk1 hFc hP1 hD1
  exact kk u H1 locs hw (hK.app hK1) hP2 hD2 hS
theorem xN_v {post : Z → Prop} (S : CallFix p m c cc nL s args wB own) (hM : Met l y (Cond.code y bytes maxL none :: wB) { frames := fr, cells := mc, slots := ms, locals := lo } (va_Pc (.ref b :: As) (pX D H.size wc tc)) (va_Qv post (fun z t => qX D (w1 z) (t1 z) (va_A wc H.size) t) (va_A wc H.size)) mc ms (va_A wc H.size)) {host : String} (hnw : ∀ {U : State}, nw U → va_Nw (.methodLinkNest own index y host) U) (hk : Cond.instanceMethod y ∈ wB ∧ Cond.initialized y.cls ∈ wB ∧ Cond.code y bytes maxL none ∈ wB) (hd : y.name = "<init>" ∧ y.cls ≠ "java/lang/invoke/MethodHandle" ∧ y.cls ≠ "java/lang/invoke/VarHandle" ∧ (parseMethodDescriptor y.desc).map (fun d => d.parameters.length) = some n) (hn : As.length = n) (hR : fr + 1 ≤ R.frames ∧ 8 + (maxL + 11) + lo ≤ R.locals) (hf : cells + mc ≤ R.cells ∧ slots + ms ≤ R.slots) (hK : va_K D vwCl tys s) (hP : va_P D vwCl ws H) (hD : va_D A ws) (hS : va_S A H0 H locs) (hA : ∀ q, H0.size ≤ q → A q) (hN : nw s) (isC isR isT : List Nat) (hC : isC.map (fun i => ws[i]?) = wc.map some) (hRr : isR.map (fun i => ws[i]?) = wr.map some) (hnd : va_nd isC = true ∧ va_nd isR = true) (hdis : ∀ i ∈ isR, i ∉ isC) (hT : isT.filterMap (fun i => tys[i]?) = tc) (hsz : ls.size = nL) (hst : st = As.reverse ++ .ref b :: rest) (hrm : (rest.map fun v => v.category).sum ≤ 8) (hdg : decode cc pc = .ok (.invokespecial index, 3))
    (kk : ∀ (z : Z) (H1 : Heap) (locs1 : List Loc), post z → va_K D vwCl (tys ++ t1 z) s → va_P D vwCl (wr ++ w1 z) H1 → va_D A (wr ++ w1 z) → va_S A H0 H1 locs1 → W p l e R s m args below meth c H1 locs1 (cells + mc) (slots + ms) Q (F0 m (pc + 3) ls rest)) : W p l e R s m args below meth c H locs cells slots Q (F0 m pc ls st) := by
  subst hst
  obtain ⟨hk2, hk4, hk5⟩ := hk
  have hPc := hP.sub (ws' := wc) isC (mapf hC)
  have hDc := hD.sub (ws' := wc) isC hnd.1 hC
  have hKc := hK.sub (tys' := tc) isT hT
  have hFc := va_free (wc := wc) hD hS hA isC hC
  have hts := S.2.2.2.2
  refine va_callv (va_runIN (As := As) (rest := rest) S hM ⟨va_cnB n hts (gB hk5) rfl rfl rfl (hnw hN) (hts _ hk4) hd.2 hR, hd.1, hts _ hk2⟩ ⟨pX_blind, pX_at hPc hKc hDc hN⟩ rfl hn hsz rfl (lv_room hrm) hdg hf) hS (fun q _ h => hFc q h) hFc (fun u t H1 locs ht hvm hw hB hz1 hk1 hS => ?_)
  obtain ⟨hP1, hK1, hD1⟩ := hB
  rw [ht] at hP1
  have hK1 := va_K.moved hvm.symm hK1
  obtain ⟨hP2, hD2⟩ := va_join (wr := wr) (w1 := w1 u) hP hD isC isR hC hRr hnd.2 hdis hk1 hFc hP1 hD1
  exact kk u H1 locs hw (hK.app hK1) hP2 hD2 hS
theorem xS_v {post : Z → Prop} (S : CallFix p m c cc nL s args wB own) (hM : Met l y (Cond.code y bytes maxL none :: wB) { frames := fr, cells := mc, slots := ms, locals := lo } (va_Pc As (pX D H.size wc tc)) (va_Qv post (fun z t => qX D (w1 z) (t1 z) (va_A wc H.size) t) (va_A wc H.size)) mc ms (va_A wc H.size)) (hk : Cond.methodLink own index y ∈ wB ∧ Cond.static y ∈ wB ∧ Cond.initialized y.cls ∈ wB ∧ Cond.code y bytes maxL none ∈ wB) (hd : y.cls ≠ "java/lang/invoke/MethodHandle" ∧ y.cls ≠ "java/lang/invoke/VarHandle" ∧ (parseMethodDescriptor y.desc).map (fun d => d.parameters.length) = some n) (hn : As.length = n) (hR : fr + 1 ≤ R.frames ∧ 8 + (maxL + 11) + lo ≤ R.locals) (hf : cells + mc ≤ R.cells ∧ slots + ms ≤ R.slots) (hK : va_K D vwCl tys s) (hP : va_P D vwCl ws H) (hD : va_D A ws) (hS : va_S A H0 H locs) (hA : ∀ q, H0.size ≤ q → A q) (hN : nw s) (isC isR isT : List Nat) (hC : isC.map (fun i => ws[i]?) = wc.map some) (hRr : isR.map (fun i => ws[i]?) = wr.map some) (hnd : va_nd isC = true ∧ va_nd isR = true) (hdis : ∀ i ∈ isR, i ∉ isC) (hT : isT.filterMap (fun i => tys[i]?) = tc) (hsz : ls.size = nL) (hst : st = As.reverse ++ rest) (hrm : (rest.map fun v => v.category).sum ≤ 8) (hdg : decode cc pc = .ok (.invokestatic index, 3))
    (kk : ∀ (z : Z) (H1 : Heap) (locs1 : List Loc), post z → va_K D vwCl (tys ++ t1 z) s → va_P D vwCl (wr ++ w1 z) H1 → va_D A (wr ++ w1 z) → va_S A H0 H1 locs1 → W p l e R s m args below meth c H1 locs1 (cells + mc) (slots + ms) Q (F0 m (pc + 3) ls rest)) : W p l e R s m args below meth c H locs cells slots Q (F0 m pc ls st) := by
  subst hst
  obtain ⟨hk1, hk2, hk4, hk5⟩ := hk
  have hPc := hP.sub (ws' := wc) isC (mapf hC)
  have hDc := hD.sub (ws' := wc) isC hnd.1 hC
  have hKc := hK.sub (tys' := tc) isT hT
  have hFc := va_free (wc := wc) hD hS hA isC hC
  have hts := S.2.2.2.2
  refine va_callv (va_runS (As := As) (rest := rest) S hM ⟨callB_of n hts (gB hk5) rfl rfl rfl (hts _ hk4) (hts _ hk1) hd hR, hts _ hk2⟩ ⟨pX_blind, pX_at hPc hKc hDc hN⟩ rfl hn hsz rfl (lv_room hrm) hdg hf) hS (fun q _ h => hFc q h) hFc (fun u t H1 locs ht hvm hw hB hz1 hk1 hS => ?_)
  obtain ⟨hP1, hK1, hD1⟩ := hB
  rw [ht] at hP1
  have hK1 := va_K.moved hvm.symm hK1
  obtain ⟨hP2, hD2⟩ := va_join (wr := wr) (w1 := w1 u) hP hD isC isR hC hRr hnd.2 hdis hk1 hFc hP1 hD1
  exact kk u H1 locs hw (hK.app hK1) hP2 hD2 hS
theorem xS_i {post : Int32 → Z → Prop} (S : CallFix p m c cc nL s args wB own) (hM : Met l y (Cond.code y bytes maxL ret :: wB) { frames := fr, cells := mc, slots := ms, locals := lo } (va_Pc As (pX D H.size wc tc)) (va_Qi post (fun z t => qX D (w1 z) (t1 z) (va_A wc H.size) t) (va_A wc H.size)) mc ms (va_A wc H.size)) (hk : Cond.methodLink own index y ∈ wB ∧ Cond.static y ∈ wB ∧ Cond.initialized y.cls ∈ wB ∧ Cond.code y bytes maxL ret ∈ wB) (hd : y.cls ≠ "java/lang/invoke/MethodHandle" ∧ y.cls ≠ "java/lang/invoke/VarHandle" ∧ (parseMethodDescriptor y.desc).map (fun d => d.parameters.length) = some n) (hn : As.length = n) (hR : fr + 1 ≤ R.frames ∧ 8 + (maxL + 11) + lo ≤ R.locals) (hf : cells + mc ≤ R.cells ∧ slots + ms ≤ R.slots) (hK : va_K D vwCl tys s) (hP : va_P D vwCl ws H) (hD : va_D A ws) (hS : va_S A H0 H locs) (hA : ∀ q, H0.size ≤ q → A q) (hN : nw s) (isC isR isT : List Nat) (hC : isC.map (fun i => ws[i]?) = wc.map some) (hRr : isR.map (fun i => ws[i]?) = wr.map some) (hnd : va_nd isC = true ∧ va_nd isR = true) (hdis : ∀ i ∈ isR, i ∉ isC) (hT : isT.filterMap (fun i => tys[i]?) = tc) (hsz : ls.size = nL) (hst : st = As.reverse ++ rest) (hrm : (rest.map fun v => v.category).sum ≤ 8) (hdg : decode cc pc = .ok (.invokestatic index, 3))
    (kk : ∀ (r : Int32) (z : Z) (H1 : Heap) (locs1 : List Loc), post r z → va_K D vwCl (tys ++ t1 z) s → va_P D vwCl (wr ++ w1 z) H1 → va_D A (wr ++ w1 z) → va_S A H0 H1 locs1 → W p l e R s m args below meth c H1 locs1 (cells + mc) (slots + ms) Q (F0 m (pc + 3) ls (.int r :: rest))) : W p l e R s m args below meth c H locs cells slots Q (F0 m pc ls st) := by
  subst hst
  obtain ⟨hk1, hk2, hk4, hk5⟩ := hk
  have hPc := hP.sub (ws' := wc) isC (mapf hC)
  have hDc := hD.sub (ws' := wc) isC hnd.1 hC
  have hKc := hK.sub (tys' := tc) isT hT
  have hFc := va_free (wc := wc) hD hS hA isC hC
  have hts := S.2.2.2.2
  refine va_calli (va_runS (As := As) (rest := rest) S hM ⟨callB_of n hts (gB hk5) rfl rfl rfl (hts _ hk4) (hts _ hk1) hd hR, hts _ hk2⟩ ⟨pX_blind, pX_at hPc hKc hDc hN⟩ rfl hn hsz rfl (lv_room hrm) hdg hf) hS (fun q _ h => hFc q h) hFc (fun r u t H1 locs ht hvm hw hB hz1 hk1 hS => ?_)
  obtain ⟨hP1, hK1, hD1⟩ := hB
  rw [ht] at hP1
  have hK1 := va_K.moved hvm.symm hK1
  obtain ⟨hP2, hD2⟩ := va_join (wr := wr) (w1 := w1 u) hP hD isC isR hC hRr hnd.2 hdis hk1 hFc hP1 hD1
  exact kk r u H1 locs hw (hK.app hK1) hP2 hD2 hS
end XW

