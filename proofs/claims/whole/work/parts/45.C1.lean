/-! Constructors: an array made and laid into a final field -/
section MkArr
variable {p : Program} {l : Launch} {e : Env} {R : Room} {s : State} {m : MethodId} {args : Array Value} {below : List Frame} {meth : Method} {c : Code} {H : Heap} {locs : List Loc} {cells slots : Nat} {Q : State → Prop} {cc : ByteArray} {D : va_G} {tc : Nat → ClassId} {A : Nat → Prop}
/-- the array of a class is the one that is known -/
theorem ya_same {tys : List (ClassId × FieldType)} {cA cB : ClassId} {ty : FieldType} {i j : Nat} (hty : ∀ C, ty ≠ .object C) (hK : va_K D vwCl tys s) (h1 : tys[i]? = some (cA, ty)) (h2 : tys[j]? = some (cB, ty)) : cA = cB := by
  have a := (hK.2 i _ h1).2
  have b := (hK.2 j _ h2).2
  cases ty with
  | object C => exact absurd rfl (hty C)
  | _ => exact Option.some.inj (Eq.trans (Eq.symm a) b)
set_option maxHeartbeats 1000000 in
theorem mk_arr {own C : String} {T : u_T} {N ci : Nat} {a : Nat} {fs : List Value} {ws : va_W} {la : Array Slot} {p0 p1 p2 p3 p4 idx k t0 nn : Nat} {atype : ArrayType} {n : Int32} {ty : FieldType}
    (hx : p.tables.exec = Jvm.exec) (hb : c.code = cc) (hts : ∀ w ∈ wsG, w.before args s = true) (hown : s.vm.findClass own = some m.cls) (hin : meth.name = "<init>") (hK : va_K D vwCl (xt tc) s) (hA : ∀ q, s.heap.size ≤ q → A q)
    (hP : va_P D vwCl ((a, .inr (ci, fs)) :: ws) H) (hD : va_D A ((a, .inr (ci, fs)) :: ws)) (hS : va_S A s.heap H locs) (hl : la[0]? = some (.val (.ref a)))
    (hc : vwCl[ci]? = some (C, T, N)) (hk : k < N) (hlink : Cond.fieldLink own idx (T k).1 (T k).2.1 (T k).2.2.1 ∈ wsG) (hfin : (T k).2.2.2 = true) (hdecl : (T k).1 = own) (hfd : parseFieldDescriptor (T k).2.2.1 = some (.array ty))
    (harr : Cond.arrayClass ty ∈ wsG) (hty : newarray.typeOf atype = ty) (hto : ∀ C, ty ≠ .object C) (ht0 : (xt tc)[t0]? = some (tc t0, ty)) (hz : defaultValue ty = .int 0) (hn : ¬ n < 0) (hN : n.toNatClampNeg = nn) (hbytes : nn * componentBytes ty ≤ 536870912) (hcl : cells + 1 ≤ R.cells) (hsl : slots + nn ≤ R.slots)
    (hlf : k < fs.length)
    (d0 : decode cc p0 = .ok (.aload_n 0, 1)) (e1 : p1 = p0 + 1) (hpush : W p l e R s m args below meth c H locs cells slots Q (F0 m p2 la [.int n, .ref a]) → W p l e R s m args below meth c H locs cells slots Q (F0 m p1 la [.ref a])) (d2 : decode cc p2 = .ok (.newarray atype, 2)) (e3 : p3 = p2 + 2) (d3 : decode cc p3 = .ok (.putfield idx, 3)) (e4 : p4 = p3 + 3)
    (kk : ∀ (q : Nat) (H1 : Heap) (locs1 : List Loc), va_P D vwCl ((a, .inr (ci, fs.set k (.ref q))) :: (ws ++ [(q, .inl (tc t0, nn, .inl (fun _ => 0)))])) H1 → va_D A ((a, .inr (ci, fs.set k (.ref q))) :: (ws ++ [(q, .inl (tc t0, nn, .inl (fun _ => 0)))])) → va_S A s.heap H1 locs1 → W p l e R s m args below meth c H1 locs1 (cells + 1) (slots + nn) Q (F0 m p4 la [])) :
    W p l e R s m args below meth c H locs cells slots Q (F0 m p0 la []) := by
  subst e1; subst e3; subst e4
  obtain ⟨cls1, cls2, ty0, cls3⟩ := xcls ci C T N hc
  refine lv_aload_n hx hb d0 rfl hl ?_
  refine hpush ?_
  subst hty
  refine va_newa (N' := nn) (a0 := (nn, .inl (fun _ => 0))) hx hb (hts _ harr) rfl hK hP hD hS hA (fun cA => by rw [vp_cell_i, hz]) hn hN hbytes hcl hsl d2 (fun q cA H1 hK1 hP1 hD1 hS1 => ?_)
  have ec : cA = tc t0 := by
    have hlen : t0 < (xt tc).length := (List.getElem?_eq_some_iff.mp ht0).1
    refine ya_same (i := (xt tc).length) (j := t0) hto hK1 ?_ ?_
    · rw [List.getElem?_append_right (Nat.le_refl _), Nat.sub_self]; rfl
    · rw [List.getElem?_append_left hlen]; exact ht0
  subst ec
  exact va_putF (D := D) (v := .ref q) (ty := .array (newarray.typeOf atype)) hx hb hts cls1 ty0 cls3 cls2 hown hK hP1 hD1 hS1 0 rfl hc k hk (hts _ hlink) (fun _ h9 => h9) hfin hin hdecl hfd rfl rfl hlf d3 (fun H2 locs2 hP2 hD2 hS2 => kk q H2 locs2 hP2 hD2 hS2)
end MkArr
