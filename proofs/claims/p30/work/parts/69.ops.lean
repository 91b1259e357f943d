/-! the calls as the law makes them: a code or an answer, over plain numbers -/
noncomputable def pD (p : Prop) : Bool := @decide p (Classical.propDecidable p)
theorem pD_l {p : Prop} (h : pD p = true) : p := @of_decide_eq_true p (Classical.propDecidable p) h
theorem pD_t {p : Prop} (h : p) : pD p = true := @decide_eq_true p (Classical.propDecidable p) h
noncomputable def gQ {α : Type} (X : XV) (k : Option α) : Option α := gb (pD (okX 600 X)) k
theorem gQ_t {α : Type} {X : XV} {k : Option α} (h : okX 600 X) : gQ X k = k := gb_t (pD_t h)
theorem gQ_l {α : Type} {X : XV} {k : Option α} {o : α} (h : gQ X k = some o) : okX 600 X ∧ k = some o := ⟨pD_l (gb_l h), gb_r h⟩
def wv (u : String ⊕ Int32) : Int64 := match u with
  | .inl E => if E = xB then (-9000000000000000001) else if E = xR then (-9000000000000000002) else (-9000000000000000003)
  | .inr v => v.toInt64
def wm (X : XV) (u : String ⊕ (Int32 × XV)) : Int64 × XV := match u with
  | .inl E => (wv (.inl E), X)
  | .inr (v, X') => (v.toInt64, X')
def wf (u : String ⊕ UInt32) : UInt32 := match u with
  | .inl _ => 3239051264
  | .inr v => v
theorem wv_B : wv (.inl xB) = (-9000000000000000001) := by decide +kernel
theorem wv_R : wv (.inl xR) = (-9000000000000000002) := by decide +kernel
theorem wv_S : wv (.inl xS) = (-9000000000000000003) := by decide +kernel
noncomputable def o_about (X : XV) (p : Int32) : Option Int64 := gQ X (some (wv (u_about (x_n X) (x_R X) p)))
noncomputable def o_total (X : XV) (p : Int32) : Option Int64 := gQ X (some (wv (u_total (x_n X) (x_R X) p)))
noncomputable def o_effect (X : XV) (p q : Int32) : Option Int64 := gQ X (some (wv (u_effect (x_n X) (x_R X) p q)))
noncomputable def o_neighbor (X : XV) (p q : Int32) : Option Int64 := gQ X (some (wv (u_neighbor (x_n X) (x_R X) p q)))
noncomputable def o_share (X : XV) (p : Int32) : Option UInt32 := gQ X (some (wf (u_share (x_n X) (x_R X) p)))
noncomputable def o_economy (X : XV) : Option UInt32 := gQ X (some (ecV (x_R X)))
noncomputable def o_errorPosition (X : XV) : Option Int32 := gQ X (some (u_errPos X))
noncomputable def o_clearText (X : XV) : Option (Int32 × XV) := gQ X (some (u_clear X))
noncomputable def o_ahead (X : XV) (p q r : Int32) : Option Int64 := gQ X (some (wv (u_ahead (x_n X) (x_R X) p q r)))
noncomputable def o_growth (X : XV) (p q : Int32) : Option Int64 := gQ X (some (wv (u_growth (x_n X) (x_R X) p q)))
noncomputable def o_washGain (X : XV) (p q r : Int32) : Option Int64 := gQ X (some (wv (u_washGain (x_n X) (x_R X) p q r)))
noncomputable def o_bestTurns (X : XV) (p q : Int32) : Option Int64 := gQ X (some (wv (u_bestTurns (x_n X) (x_R X) p q)))
noncomputable def o_scaledAfter (X : XV) (p q : Int32) : Option Int64 := gQ X (some (wv (u_scaledAfter (x_n X) (x_R X) p q)))
noncomputable def o_steamFor (X : XV) (p q : Int32) : Option Int64 := gQ X (some (wv (u_steamFor (x_n X) (x_R X) p q)))
noncomputable def o_script (X : XV) (p : Int32) (q : Int64) : Option Int64 := gQ X (some (wv (u_script (x_n X) (x_R X) p q)))
noncomputable def o_simulate (X : XV) (p : Int64) (q : Int32) : Option Int64 := gQ X (some (wv (u_simulate (x_n X) (x_R X) p q)))
noncomputable def o_append (X : XV) (p : Int32) : Option (Int64 × XV) := gQ X (some (wm X (u_append X p)))
noncomputable def o_load (X : XV) : Option (Int64 × XV) := gQ X (some (wm X (u_load X)))
noncomputable def o_tick (X : XV) (p : Int32) : Option (Int64 × XV) := gQ X (some (wm X (u_tick X p)))
noncomputable def o_set (X : XV) (p q : Int32) : Option (Int64 × XV) := gQ X (some (wm X (u_set X p q)))
noncomputable def o_setValve (X : XV) (p q : Int32) : Option (Int64 × XV) := gQ X (some (wm X (u_setValve X p q)))
noncomputable def o_setBleed (X : XV) (p q : Int32) : Option (Int64 × XV) := gQ X (some (wm X (u_setBleed X p q)))
noncomputable def o_wash (X : XV) (p q : Int32) : Option (Int64 × XV) := gQ X (some (wm X (u_wash X p q)))
noncomputable def o_endWash (X : XV) (p : Int32) : Option (Int64 × XV) := gQ X (some (wm X (u_endWash X p)))
noncomputable def o_undo (X : XV) : Option (Int64 × XV) := gQ X (some (wm X (u_undo X)))
noncomputable def o_save (X : XV) (p : Int32) : Option (Int64 × XV) := gQ X (some (wm X (u_save X p)))
noncomputable def o_restore (X : XV) (p : Int32) : Option (Int64 × XV) := gQ X (some (wm X (u_restore X p)))
theorem okX.c5 {X : XV} (h : okX 600 X) : x_R X 53 < 2000000000 := by have := h.1.2.1; omega
