abbrev nx (i : Int32) : Nat := i.toNatClampNeg
abbrev iu (x y : Int32) : Int32 := (x.toUInt32 >>> (y.toUInt32 &&& Int32.toUInt32 31)).toInt32
abbrev irm (x y : Int32) : Int32 := x - x / y * y
abbrev ib (x : Int32) : Int32 := x.toInt8.toInt32
abbrev ihs (x : Int32) : Int32 := x.toInt16.toInt32
abbrev Ev0 : HE := fun _ _ => True
def p0 {α : Type} (S : HS) (Q : α → Prop) : α → HS → Prop := fun r u => u = S ∧ Q r
def p0v (S : HS) (Q : Prop) : HS → Prop := fun u => u = S ∧ Q
def pI {α : Type} (J : HJ) (T F : HR) (L : HL) (Q : α → HI → Prop) : α → HS → Prop := fun r u => ∃ I, u = (I, J, T, F, L) ∧ Q r I
def pIv (J : HJ) (T F : HR) (L : HL) (Q : HI → Prop) : HS → Prop := fun u => ∃ I, u = (I, J, T, F, L) ∧ Q I
def pIJ {α : Type} (T F : HR) (L : HL) (Q : α → HI → HJ → Prop) : α → HS → Prop := fun r u => ∃ I J, u = (I, J, T, F, L) ∧ Q r I J
def pIJv (T F : HR) (L : HL) (Q : HI → HJ → Prop) : HS → Prop := fun u => ∃ I J, u = (I, J, T, F, L) ∧ Q I J
section HM4
variable {p : Program} {l : Launch} {e : Env} {R : Room} {s : State} {m : MethodId} {args : Array Value} {below : List Frame} {meth : Method} {c : Code} {H : Heap} {locs : List Loc} {cells slots : Nat} {Q : State → Prop}
variable {cc : ByteArray} {pc : Nat} {ls : Array Slot} {rest : List Value}
theorem hm_idiv (hexec : p.tables.exec = Jvm.exec) (hb : c.code = cc) {x y : Int32} (hdg : decode cc pc = .ok (.idiv, 1)) (hne : ¬ y = 0)
    (k : W p l e R s m args below meth c H locs cells slots Q (F0 m (pc + 1) ls (.int (x / y) :: rest))) : W p l e R s m args below meth c H locs cells slots Q (F0 m pc ls (.int y :: .int x :: rest)) := lv_idiv hexec hb hdg hne k
theorem hm_irem (hexec : p.tables.exec = Jvm.exec) (hb : c.code = cc) {x y : Int32} (hdg : decode cc pc = .ok (.irem, 1)) (hne : ¬ y = 0)
    (k : W p l e R s m args below meth c H locs cells slots Q (F0 m (pc + 1) ls (.int (irm x y) :: rest))) : W p l e R s m args below meth c H locs cells slots Q (F0 m pc ls (.int y :: .int x :: rest)) := lv_irem hexec hb hdg hne k
/-- a switch's default road: sp, the numbers with a road of their own -/
theorem hm_tabD {dflt lo hi : Int} {offs : Array Int} {len : Nat} {x : Int32} {tgt : Nat} (sp : List Int32) (hexec : p.tables.exec = Jvm.exec) (hb : c.code = cc) (hdg : decode cc pc = .ok (.tableswitch dflt lo hi offs, len))
    (hall : ∀ j : Fin offs.size, offs[j.val]? = some dflt ∨ ∃ v ∈ sp, v.toInt = lo + j.val) (hx : ∀ v ∈ sp, ¬ x = v) (ht : (pc : Int) + dflt = (tgt : Int) ∧ hi - lo < offs.size)
    (k : W p l e R s m args below meth c H locs cells slots Q (F0 m tgt ls rest)) : W p l e R s m args below meth c H locs cells slots Q (F0 m pc ls (.int x :: rest)) := by
  by_cases h1 : x.toInt < lo
  · exact lv_tableOut hexec hb hdg (Or.inl h1) ht.1 k
  · by_cases h2 : hi < x.toInt
    · exact lv_tableOut hexec hb hdg (Or.inr h2) ht.1 k
    · have hj : (x.toInt - lo).toNat < offs.size := by have := ht.2; omega
      rcases hall ⟨_, hj⟩ with h | ⟨v, hv, e1⟩
      · exact lv_tableIn hexec hb hdg h1 h2 h ht.1 k
      · exact absurd (Int32.toInt_inj.mp (show x.toInt = v.toInt by rw [e1]; dsimp only; omega)) (hx v hv)
end HM4
