section Walk2
variable {p : Program} {l : Launch} {e : Env} {R : Room} {s : State} {m : MethodId} {args : Array Value} {below : List Frame} {meth : Method} {c : Code} {Q : State → Prop} {D : va_G} {A : Nat → Prop} {nL : Nat} {w : Mem → va_W} {u u2 : Mem} {pc pc2 : Nat} {lv lv2 : List (Nat × Value)} {rest : List Value} {cc : ByteArray} {Ts : List Cond} {own : String} {tys : List (ClassId × FieldType)}
theorem x_entry2 {av : List Value} (hav : args = av.toArray) (hP : va_P D vwCl (w u) s.heap) (hD : va_D A (w u)) (hn : (lg_sl av).length ≤ nL) (hl : lv_args 0 av = lv) (k : Wx p l e R s m args below meth c Q D A nL w u 0 lv []) : W p l e R s m args below meth c s.heap [] 0 0 Q (entryFrame m args nL) := by
  have e9 : entryFrame m args nL = entryFrame m av.toArray nL := by rw [hav]
  rw [e9]
  exact x_entry hP hD hn hl k
end Walk2
