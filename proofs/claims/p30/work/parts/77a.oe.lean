/-! the calls, their guard gone -/
section OE
variable {X : XV}
theorem z_about (h : okX 600 X) (p : Int32) : o_about X p = some (wv (u_about (x_n X) (x_R X) p)) := gQ_t h
theorem z_total (h : okX 600 X) (p : Int32) : o_total X p = some (wv (u_total (x_n X) (x_R X) p)) := gQ_t h
theorem z_effect (h : okX 600 X) (p : Int32) (q : Int32) : o_effect X p q = some (wv (u_effect (x_n X) (x_R X) p q)) := gQ_t h
theorem z_neighbor (h : okX 600 X) (p : Int32) (q : Int32) : o_neighbor X p q = some (wv (u_neighbor (x_n X) (x_R X) p q)) := gQ_t h
theorem z_share (h : okX 600 X) (p : Int32) : o_share X p = some (wf (u_share (x_n X) (x_R X) p)) := gQ_t h
theorem z_economy (h : okX 600 X)  : o_economy X  = some (ecV (x_R X)) := gQ_t h
theorem z_errorPosition (h : okX 600 X)  : o_errorPosition X  = some (u_errPos X) := gQ_t h
theorem z_clearText (h : okX 600 X)  : o_clearText X  = some (u_clear X) := gQ_t h
theorem z_ahead (h : okX 600 X) (p : Int32) (q : Int32) (r : Int32) : o_ahead X p q r = some (wv (u_ahead (x_n X) (x_R X) p q r)) := gQ_t h
theorem z_growth (h : okX 600 X) (p : Int32) (q : Int32) : o_growth X p q = some (wv (u_growth (x_n X) (x_R X) p q)) := gQ_t h
theorem z_washGain (h : okX 600 X) (p : Int32) (q : Int32) (r : Int32) : o_washGain X p q r = some (wv (u_washGain (x_n X) (x_R X) p q r)) := gQ_t h
theorem z_bestTurns (h : okX 600 X) (p : Int32) (q : Int32) : o_bestTurns X p q = some (wv (u_bestTurns (x_n X) (x_R X) p q)) := gQ_t h
theorem z_scaledAfter (h : okX 600 X) (p : Int32) (q : Int32) : o_scaledAfter X p q = some (wv (u_scaledAfter (x_n X) (x_R X) p q)) := gQ_t h
theorem z_steamFor (h : okX 600 X) (p : Int32) (q : Int32) : o_steamFor X p q = some (wv (u_steamFor (x_n X) (x_R X) p q)) := gQ_t h
theorem z_script (h : okX 600 X) (p : Int32) (s : Int64) : o_script X p s = some (wv (u_script (x_n X) (x_R X) p s)) := gQ_t h
theorem z_simulate (h : okX 600 X) (s : Int64) (p : Int32) : o_simulate X s p = some (wv (u_simulate (x_n X) (x_R X) s p)) := gQ_t h
theorem z_append (h : okX 600 X) (p : Int32) : o_append X p = some (wm X (u_append X p)) := gQ_t h
theorem z_load (h : okX 600 X)  : o_load X  = some (wm X (u_load X)) := gQ_t h
theorem z_tick (h : okX 600 X) (p : Int32) : o_tick X p = some (wm X (u_tick X p)) := gQ_t h
theorem z_set (h : okX 600 X) (p : Int32) (q : Int32) : o_set X p q = some (wm X (u_set X p q)) := gQ_t h
theorem z_setValve (h : okX 600 X) (p : Int32) (q : Int32) : o_setValve X p q = some (wm X (u_setValve X p q)) := gQ_t h
theorem z_setBleed (h : okX 600 X) (p : Int32) (q : Int32) : o_setBleed X p q = some (wm X (u_setBleed X p q)) := gQ_t h
theorem z_wash (h : okX 600 X) (p : Int32) (q : Int32) : o_wash X p q = some (wm X (u_wash X p q)) := gQ_t h
theorem z_endWash (h : okX 600 X) (p : Int32) : o_endWash X p = some (wm X (u_endWash X p)) := gQ_t h
theorem z_undo (h : okX 600 X)  : o_undo X  = some (wm X (u_undo X)) := gQ_t h
theorem z_save (h : okX 600 X) (p : Int32) : o_save X p = some (wm X (u_save X p)) := gQ_t h
theorem z_restore (h : okX 600 X) (p : Int32) : o_restore X p = some (wm X (u_restore X p)) := gQ_t h
end OE
