/-! ===== the law's own rows: its script, its end ===== -/
section ZL
variable {p : Program} {l : Launch} {e : Env} {R : Room} {s : State} {m : MethodId} {args : Array Value} {below : List Frame} {meth : Method} {c : Code} {H : Heap} {locs : List Loc} {cells slots : Nat} {Q : State → Prop}
variable {G : ZG} {ph : Bool} {base b L : Nat} {xs : Nat → Int32} {cc : ByteArray} {M : Mem} {pc : Nat} {ls : Array Slot} {rest : List Value} {d0 : Drawn}
theorem z_slen (hx : p.tables.exec = Jvm.exec) (hb : c.code = cc) (hX : va_X b L xs s s.heap) (hbl : b < base) (hZ : ZH G ph base s.heap M H locs) (hdg : decode cc pc = .ok (.arraylength, 1))
    (kk : W p l e R (s.setDrawn d0) m args below meth c H locs cells slots Q (F0 m (pc + 1) ls (.int (Int32.ofNat L) :: rest))) : W p l e R (s.setDrawn d0) m args below meth c H locs cells slots Q (F0 m pc ls (.ref b :: rest)) := by
  obtain ⟨scr, h1, h2, h3, h4, h5⟩ := hX
  have h2 : (s.setDrawn d0).isArrayOf scr .int := State.isArrayOf_alike (s := s) (T := s.setDrawn d0) (Vm.Alike.refl s.vm) h2
  exact W.alen (n := Int32.ofNat L) hx hb (by rw [hZ.2.1 b hbl]; exact h1) h2 (by rw [h4] <;> rfl) rfl rfl hdg kk
theorem z_sld (hx : p.tables.exec = Jvm.exec) (hb : c.code = cc) (hX : va_X b L xs s s.heap) (hbl : b < base) (hZ : ZH G ph base s.heap M H locs) {i : Int32} (hin : inb i L) (hdg : decode cc pc = .ok (.iaload, 1))
    (kk : W p l e R (s.setDrawn d0) m args below meth c H locs cells slots Q (F0 m (pc + 1) ls (.int (xs i.toNatClampNeg) :: rest))) : W p l e R (s.setDrawn d0) m args below meth c H locs cells slots Q (F0 m pc ls (.int i :: .ref b :: rest)) := by
  obtain ⟨scr, h1, h2, h3, h4, h5⟩ := hX
  have h2 : (s.setDrawn d0).isArrayOf scr .int := State.isArrayOf_alike (s := s) (T := s.setDrawn d0) (Vm.Alike.refl s.vm) h2
  have hlt : i.toNatClampNeg < L := Nat.not_le.mp fun q => hin (Or.inr q)
  exact W.iald (v := .int (xs i.toNatClampNeg)) hx hb (by rw [hZ.2.1 b hbl]; exact h1) h2 h3 (by rw [h4]; exact hin) (h5 _ hlt) rfl rfl hdg kk
theorem SS_max : SS ZMAX ≤ 7302250 := by decide +kernel
theorem z_lawret (A : ∀ d, Amb p room_1 (s.setDrawn d) m #[Value.ref b] meth c G base 0 cL_law RL 4 9 388) (hd0 : s.drawn.sameBut d0 lw_cs) (hZ : ZH G true base s.heap M H locs) (hbase : s.heap.size = base) (hr : meth.sig.returnType = ret) (hlocks : meth.locks = false) (hdg : decode cL_law pc = .ok (.ireturn, 1)) : W p l e room_1 (s.setDrawn d0) m #[Value.ref b] below meth c H locs cells slots (lw_Z below #[Value.ref b] s) (F0 m pc ls [.int 1]) := by
  refine z_tight (A d0) hZ ?_
  refine va_forget (fun q hq => by have := hZ.2.2.1 q hq; show s.heap.size ≤ q.base; omega) ?_
  have h1 := hZ.1.2.1
  have h2 := SS_mono h1
  have h3 := SS_max
  have h4 : ZMAX = 6000 := rfl
  refine W.widen (k := 600000) (n := 7302250) (by omega) (by omega) ?_
  exact lw_ret hd0 (A d0).1 (A d0).2.1 hr hlocks hdg
end ZL
