/-! values: a state of the train; the reference's own numbers and rows; worlds of them -/
abbrev tyK (k : Nat → ClassId) : List (ClassId × FieldType) := [(k 0, .int), (k 1, .char), (k 2, .boolean), (k 3, .object "EffectTrain$State"), (k 4, .long)]
def mn (x y : Int32) : Int32 := if y < x then y else x
def mx (x y : Int32) : Int32 := if x < y then y else x
abbrev StV : Type := Int32 × Int32 × (Nat → Int32) × (Nat → Int32) × (Nat → Int32) × (Nat → Int32) × (Nat → Int32) × (Nat → Int32) × (Nat → Int32) × (Nat → Int32) × (Nat → Int32) × (Nat → Int32)
def s_n (S : StV) : Int32 := S.1
def s_clk (S : StV) : Int32 := S.2.1
def s_set (S : StV) : Nat → Int32 := S.2.2.1
def s_cou (S : StV) : Nat → Int32 := S.2.2.2.1
def s_are (S : StV) : Nat → Int32 := S.2.2.2.2.1
def s_wat (S : StV) : Nat → Int32 := S.2.2.2.2.2.1
def s_sol (S : StV) : Nat → Int32 := S.2.2.2.2.2.2.1
def s_val (S : StV) : Nat → Int32 := S.2.2.2.2.2.2.2.1
def s_ble (S : StV) : Nat → Int32 := S.2.2.2.2.2.2.2.2.1
def s_sca (S : StV) : Nat → Int32 := S.2.2.2.2.2.2.2.2.2.1
def s_scl (S : StV) : Nat → Int32 := S.2.2.2.2.2.2.2.2.2.2.1
def s_lef (S : StV) : Nat → Int32 := S.2.2.2.2.2.2.2.2.2.2.2
def su_n (S : StV) (x : Int32) : StV := (x, s_clk S, s_set S, s_cou S, s_are S, s_wat S, s_sol S, s_val S, s_ble S, s_sca S, s_scl S, s_lef S)
def su_clk (S : StV) (x : Int32) : StV := (s_n S, x, s_set S, s_cou S, s_are S, s_wat S, s_sol S, s_val S, s_ble S, s_sca S, s_scl S, s_lef S)
def su_set (S : StV) (x : Nat → Int32) : StV := (s_n S, s_clk S, x, s_cou S, s_are S, s_wat S, s_sol S, s_val S, s_ble S, s_sca S, s_scl S, s_lef S)
def su_cou (S : StV) (x : Nat → Int32) : StV := (s_n S, s_clk S, s_set S, x, s_are S, s_wat S, s_sol S, s_val S, s_ble S, s_sca S, s_scl S, s_lef S)
def su_are (S : StV) (x : Nat → Int32) : StV := (s_n S, s_clk S, s_set S, s_cou S, x, s_wat S, s_sol S, s_val S, s_ble S, s_sca S, s_scl S, s_lef S)
def su_wat (S : StV) (x : Nat → Int32) : StV := (s_n S, s_clk S, s_set S, s_cou S, s_are S, x, s_sol S, s_val S, s_ble S, s_sca S, s_scl S, s_lef S)
def su_sol (S : StV) (x : Nat → Int32) : StV := (s_n S, s_clk S, s_set S, s_cou S, s_are S, s_wat S, x, s_val S, s_ble S, s_sca S, s_scl S, s_lef S)
def su_val (S : StV) (x : Nat → Int32) : StV := (s_n S, s_clk S, s_set S, s_cou S, s_are S, s_wat S, s_sol S, x, s_ble S, s_sca S, s_scl S, s_lef S)
def su_ble (S : StV) (x : Nat → Int32) : StV := (s_n S, s_clk S, s_set S, s_cou S, s_are S, s_wat S, s_sol S, s_val S, x, s_sca S, s_scl S, s_lef S)
def su_sca (S : StV) (x : Nat → Int32) : StV := (s_n S, s_clk S, s_set S, s_cou S, s_are S, s_wat S, s_sol S, s_val S, s_ble S, x, s_scl S, s_lef S)
def su_scl (S : StV) (x : Nat → Int32) : StV := (s_n S, s_clk S, s_set S, s_cou S, s_are S, s_wat S, s_sol S, s_val S, s_ble S, s_sca S, x, s_lef S)
def su_lef (S : StV) (x : Nat → Int32) : StV := (s_n S, s_clk S, s_set S, s_cou S, s_are S, s_wat S, s_sol S, s_val S, s_ble S, s_sca S, s_scl S, x)
abbrev stW (k : Nat → ClassId) (a : Nat → Nat) (S : StV) : va_W := [(a 0, .inr (0, [.int (s_n S), .ref (a 1), .int (s_clk S), .ref (a 2), .ref (a 3), .ref (a 4), .ref (a 5), .ref (a 6), .ref (a 7), .ref (a 8), .ref (a 9), .ref (a 10)])), (a 1, .inl (k 0, 5, .inl (s_set S))), (a 2, .inl (k 0, 10, .inl (s_cou S))), (a 3, .inl (k 0, 6, .inl (s_are S))), (a 4, .inl (k 0, 6, .inl (s_wat S))), (a 5, .inl (k 0, 6, .inl (s_sol S))), (a 6, .inl (k 0, 6, .inl (s_val S))), (a 7, .inl (k 0, 6, .inl (s_ble S))), (a 8, .inl (k 0, 6, .inl (s_sca S))), (a 9, .inl (k 0, 6, .inl (s_scl S))), (a 10, .inl (k 0, 6, .inl (s_lef S)))]
abbrev MdV : Type := Int32 × Int32 × Int32 × Int32 × Int32 × Int32 × (Nat → Int32) × (Nat → Int32) × (Nat → Int32) × (Nat → Int32) × (Nat → Int32) × (Nat → Int32) × (Nat → Int32) × (Nat → Int32) × (Nat → Int32)
def m_ref (S : MdV) : Int32 := S.1
def m_scs (S : MdV) : Int32 := S.2.1
def m_spo (S : MdV) : Int32 := S.2.2.1
def m_rdn (S : MdV) : Int32 := S.2.2.2.1
def m_n (S : MdV) : Int32 := S.2.2.2.2.1
def m_act (S : MdV) : Int32 := S.2.2.2.2.2.1
def m_scr (S : MdV) : Nat → Int32 := S.2.2.2.2.2.2.1
def m_rrw (S : MdV) : Nat → Int32 := S.2.2.2.2.2.2.2.1
def m_now (S : MdV) : Nat → Int32 := S.2.2.2.2.2.2.2.2.1
def m_tri (S : MdV) : Nat → Int32 := S.2.2.2.2.2.2.2.2.2.1
def m_dia (S : MdV) : Nat → Int32 := S.2.2.2.2.2.2.2.2.2.2.1
def m_kep (S : MdV) : Nat → Int32 := S.2.2.2.2.2.2.2.2.2.2.2.1
def m_isk (S : MdV) : Nat → Int32 := S.2.2.2.2.2.2.2.2.2.2.2.2.1
def m_flo (S : MdV) : Nat → Int32 := S.2.2.2.2.2.2.2.2.2.2.2.2.2.1
def m_sal (S : MdV) : Nat → Int32 := S.2.2.2.2.2.2.2.2.2.2.2.2.2.2
def mu_ref (S : MdV) (x : Int32) : MdV := (x, m_scs S, m_spo S, m_rdn S, m_n S, m_act S, m_scr S, m_rrw S, m_now S, m_tri S, m_dia S, m_kep S, m_isk S, m_flo S, m_sal S)
def mu_scs (S : MdV) (x : Int32) : MdV := (m_ref S, x, m_spo S, m_rdn S, m_n S, m_act S, m_scr S, m_rrw S, m_now S, m_tri S, m_dia S, m_kep S, m_isk S, m_flo S, m_sal S)
def mu_spo (S : MdV) (x : Int32) : MdV := (m_ref S, m_scs S, x, m_rdn S, m_n S, m_act S, m_scr S, m_rrw S, m_now S, m_tri S, m_dia S, m_kep S, m_isk S, m_flo S, m_sal S)
def mu_rdn (S : MdV) (x : Int32) : MdV := (m_ref S, m_scs S, m_spo S, x, m_n S, m_act S, m_scr S, m_rrw S, m_now S, m_tri S, m_dia S, m_kep S, m_isk S, m_flo S, m_sal S)
def mu_n (S : MdV) (x : Int32) : MdV := (m_ref S, m_scs S, m_spo S, m_rdn S, x, m_act S, m_scr S, m_rrw S, m_now S, m_tri S, m_dia S, m_kep S, m_isk S, m_flo S, m_sal S)
def mu_act (S : MdV) (x : Int32) : MdV := (m_ref S, m_scs S, m_spo S, m_rdn S, m_n S, x, m_scr S, m_rrw S, m_now S, m_tri S, m_dia S, m_kep S, m_isk S, m_flo S, m_sal S)
def mu_scr (S : MdV) (x : Nat → Int32) : MdV := (m_ref S, m_scs S, m_spo S, m_rdn S, m_n S, m_act S, x, m_rrw S, m_now S, m_tri S, m_dia S, m_kep S, m_isk S, m_flo S, m_sal S)
def mu_rrw (S : MdV) (x : Nat → Int32) : MdV := (m_ref S, m_scs S, m_spo S, m_rdn S, m_n S, m_act S, m_scr S, x, m_now S, m_tri S, m_dia S, m_kep S, m_isk S, m_flo S, m_sal S)
def mu_now (S : MdV) (x : Nat → Int32) : MdV := (m_ref S, m_scs S, m_spo S, m_rdn S, m_n S, m_act S, m_scr S, m_rrw S, x, m_tri S, m_dia S, m_kep S, m_isk S, m_flo S, m_sal S)
def mu_tri (S : MdV) (x : Nat → Int32) : MdV := (m_ref S, m_scs S, m_spo S, m_rdn S, m_n S, m_act S, m_scr S, m_rrw S, m_now S, x, m_dia S, m_kep S, m_isk S, m_flo S, m_sal S)
def mu_dia (S : MdV) (x : Nat → Int32) : MdV := (m_ref S, m_scs S, m_spo S, m_rdn S, m_n S, m_act S, m_scr S, m_rrw S, m_now S, m_tri S, x, m_kep S, m_isk S, m_flo S, m_sal S)
def mu_kep (S : MdV) (x : Nat → Int32) : MdV := (m_ref S, m_scs S, m_spo S, m_rdn S, m_n S, m_act S, m_scr S, m_rrw S, m_now S, m_tri S, m_dia S, x, m_isk S, m_flo S, m_sal S)
def mu_isk (S : MdV) (x : Nat → Int32) : MdV := (m_ref S, m_scs S, m_spo S, m_rdn S, m_n S, m_act S, m_scr S, m_rrw S, m_now S, m_tri S, m_dia S, m_kep S, x, m_flo S, m_sal S)
def mu_flo (S : MdV) (x : Nat → Int32) : MdV := (m_ref S, m_scs S, m_spo S, m_rdn S, m_n S, m_act S, m_scr S, m_rrw S, m_now S, m_tri S, m_dia S, m_kep S, m_isk S, x, m_sal S)
def mu_sal (S : MdV) (x : Nat → Int32) : MdV := (m_ref S, m_scs S, m_spo S, m_rdn S, m_n S, m_act S, m_scr S, m_rrw S, m_now S, m_tri S, m_dia S, m_kep S, m_isk S, m_flo S, x)
abbrev mdO (b : Nat → Nat) (M : MdV) : Nat × va_E := (b 0, .inr (2, [.int (m_ref M), .ref (b 1), .int (m_scs M), .int (m_spo M), .int (m_rdn M), .ref (b 2), .int (m_n M), .ref (b 3), .ref (b 4), .ref (b 5), .int (m_act M), .ref (b 6), .ref (b 7), .ref (b 8), .ref (b 9)]))
abbrev mdW (k : Nat → ClassId) (b : Nat → Nat) (M : MdV) : va_W := [mdO b M, (b 1, .inl (k 0, 120, .inl (m_scr M))), (b 2, .inl (k 0, 64, .inl (m_rrw M))), (b 3, .inl (k 0, 64, .inl (m_now M))), (b 4, .inl (k 0, 64, .inl (m_tri M))), (b 5, .inl (k 0, 896, .inl (m_dia M))), (b 6, .inl (k 0, 128, .inl (m_kep M))), (b 7, .inl (k 2, 2, .inl (m_isk M))), (b 8, .inl (k 0, 6, .inl (m_flo M))), (b 9, .inl (k 0, 6, .inl (m_sal M)))]
theorem st_self_set (k : Nat → ClassId) (a : Nat → Nat) (S : StV) : (stW k a S).set 1 (a 1, .inl (k 0, 5, .inl (s_set S))) = stW k a S := rfl
theorem st_self_cou (k : Nat → ClassId) (a : Nat → Nat) (S : StV) : (stW k a S).set 2 (a 2, .inl (k 0, 10, .inl (s_cou S))) = stW k a S := rfl
theorem st_self_are (k : Nat → ClassId) (a : Nat → Nat) (S : StV) : (stW k a S).set 3 (a 3, .inl (k 0, 6, .inl (s_are S))) = stW k a S := rfl
theorem st_self_wat (k : Nat → ClassId) (a : Nat → Nat) (S : StV) : (stW k a S).set 4 (a 4, .inl (k 0, 6, .inl (s_wat S))) = stW k a S := rfl
theorem st_self_sol (k : Nat → ClassId) (a : Nat → Nat) (S : StV) : (stW k a S).set 5 (a 5, .inl (k 0, 6, .inl (s_sol S))) = stW k a S := rfl
theorem st_self_val (k : Nat → ClassId) (a : Nat → Nat) (S : StV) : (stW k a S).set 6 (a 6, .inl (k 0, 6, .inl (s_val S))) = stW k a S := rfl
theorem st_self_ble (k : Nat → ClassId) (a : Nat → Nat) (S : StV) : (stW k a S).set 7 (a 7, .inl (k 0, 6, .inl (s_ble S))) = stW k a S := rfl
theorem st_self_sca (k : Nat → ClassId) (a : Nat → Nat) (S : StV) : (stW k a S).set 8 (a 8, .inl (k 0, 6, .inl (s_sca S))) = stW k a S := rfl
theorem st_self_scl (k : Nat → ClassId) (a : Nat → Nat) (S : StV) : (stW k a S).set 9 (a 9, .inl (k 0, 6, .inl (s_scl S))) = stW k a S := rfl
theorem st_self_lef (k : Nat → ClassId) (a : Nat → Nat) (S : StV) : (stW k a S).set 10 (a 10, .inl (k 0, 6, .inl (s_lef S))) = stW k a S := rfl
theorem md_self_scr (k : Nat → ClassId) (b : Nat → Nat) (S : MdV) : (mdW k b S).set 1 (b 1, .inl (k 0, 120, .inl (m_scr S))) = mdW k b S := rfl
theorem md_self_rrw (k : Nat → ClassId) (b : Nat → Nat) (S : MdV) : (mdW k b S).set 2 (b 2, .inl (k 0, 64, .inl (m_rrw S))) = mdW k b S := rfl
theorem md_self_now (k : Nat → ClassId) (b : Nat → Nat) (S : MdV) : (mdW k b S).set 3 (b 3, .inl (k 0, 64, .inl (m_now S))) = mdW k b S := rfl
theorem md_self_tri (k : Nat → ClassId) (b : Nat → Nat) (S : MdV) : (mdW k b S).set 4 (b 4, .inl (k 0, 64, .inl (m_tri S))) = mdW k b S := rfl
theorem md_self_dia (k : Nat → ClassId) (b : Nat → Nat) (S : MdV) : (mdW k b S).set 5 (b 5, .inl (k 0, 896, .inl (m_dia S))) = mdW k b S := rfl
theorem md_self_kep (k : Nat → ClassId) (b : Nat → Nat) (S : MdV) : (mdW k b S).set 6 (b 6, .inl (k 0, 128, .inl (m_kep S))) = mdW k b S := rfl
theorem md_self_isk (k : Nat → ClassId) (b : Nat → Nat) (S : MdV) : (mdW k b S).set 7 (b 7, .inl (k 2, 2, .inl (m_isk S))) = mdW k b S := rfl
theorem md_self_flo (k : Nat → ClassId) (b : Nat → Nat) (S : MdV) : (mdW k b S).set 8 (b 8, .inl (k 0, 6, .inl (m_flo S))) = mdW k b S := rfl
theorem md_self_sal (k : Nat → ClassId) (b : Nat → Nat) (S : MdV) : (mdW k b S).set 9 (b 9, .inl (k 0, 6, .inl (m_sal S))) = mdW k b S := rfl
theorem st_set_n (k : Nat → ClassId) (a : Nat → Nat) (S : StV) (x : Int32) : (stW k a S).set 0 (a 0, .inr (0, ([.int (s_n S), .ref (a 1), .int (s_clk S), .ref (a 2), .ref (a 3), .ref (a 4), .ref (a 5), .ref (a 6), .ref (a 7), .ref (a 8), .ref (a 9), .ref (a 10)] : List Value).set 0 (.int x))) = stW k a (su_n S x) := rfl
theorem st_set_clk (k : Nat → ClassId) (a : Nat → Nat) (S : StV) (x : Int32) : (stW k a S).set 0 (a 0, .inr (0, ([.int (s_n S), .ref (a 1), .int (s_clk S), .ref (a 2), .ref (a 3), .ref (a 4), .ref (a 5), .ref (a 6), .ref (a 7), .ref (a 8), .ref (a 9), .ref (a 10)] : List Value).set 2 (.int x))) = stW k a (su_clk S x) := rfl
theorem st_set_set (k : Nat → ClassId) (a : Nat → Nat) (S : StV) (x : Nat → Int32) : (stW k a S).set 1 (a 1, .inl (k 0, 5, .inl x)) = stW k a (su_set S x) := rfl
theorem st_set_cou (k : Nat → ClassId) (a : Nat → Nat) (S : StV) (x : Nat → Int32) : (stW k a S).set 2 (a 2, .inl (k 0, 10, .inl x)) = stW k a (su_cou S x) := rfl
theorem st_set_are (k : Nat → ClassId) (a : Nat → Nat) (S : StV) (x : Nat → Int32) : (stW k a S).set 3 (a 3, .inl (k 0, 6, .inl x)) = stW k a (su_are S x) := rfl
theorem st_set_wat (k : Nat → ClassId) (a : Nat → Nat) (S : StV) (x : Nat → Int32) : (stW k a S).set 4 (a 4, .inl (k 0, 6, .inl x)) = stW k a (su_wat S x) := rfl
theorem st_set_sol (k : Nat → ClassId) (a : Nat → Nat) (S : StV) (x : Nat → Int32) : (stW k a S).set 5 (a 5, .inl (k 0, 6, .inl x)) = stW k a (su_sol S x) := rfl
theorem st_set_val (k : Nat → ClassId) (a : Nat → Nat) (S : StV) (x : Nat → Int32) : (stW k a S).set 6 (a 6, .inl (k 0, 6, .inl x)) = stW k a (su_val S x) := rfl
theorem st_set_ble (k : Nat → ClassId) (a : Nat → Nat) (S : StV) (x : Nat → Int32) : (stW k a S).set 7 (a 7, .inl (k 0, 6, .inl x)) = stW k a (su_ble S x) := rfl
theorem st_set_sca (k : Nat → ClassId) (a : Nat → Nat) (S : StV) (x : Nat → Int32) : (stW k a S).set 8 (a 8, .inl (k 0, 6, .inl x)) = stW k a (su_sca S x) := rfl
theorem st_set_scl (k : Nat → ClassId) (a : Nat → Nat) (S : StV) (x : Nat → Int32) : (stW k a S).set 9 (a 9, .inl (k 0, 6, .inl x)) = stW k a (su_scl S x) := rfl
theorem st_set_lef (k : Nat → ClassId) (a : Nat → Nat) (S : StV) (x : Nat → Int32) : (stW k a S).set 10 (a 10, .inl (k 0, 6, .inl x)) = stW k a (su_lef S x) := rfl
theorem md_set_ref (k : Nat → ClassId) (b : Nat → Nat) (S : MdV) (x : Int32) : (mdW k b S).set 0 (b 0, .inr (2, ([.int (m_ref S), .ref (b 1), .int (m_scs S), .int (m_spo S), .int (m_rdn S), .ref (b 2), .int (m_n S), .ref (b 3), .ref (b 4), .ref (b 5), .int (m_act S), .ref (b 6), .ref (b 7), .ref (b 8), .ref (b 9)] : List Value).set 0 (.int x))) = mdW k b (mu_ref S x) := rfl
theorem md_set_scs (k : Nat → ClassId) (b : Nat → Nat) (S : MdV) (x : Int32) : (mdW k b S).set 0 (b 0, .inr (2, ([.int (m_ref S), .ref (b 1), .int (m_scs S), .int (m_spo S), .int (m_rdn S), .ref (b 2), .int (m_n S), .ref (b 3), .ref (b 4), .ref (b 5), .int (m_act S), .ref (b 6), .ref (b 7), .ref (b 8), .ref (b 9)] : List Value).set 2 (.int x))) = mdW k b (mu_scs S x) := rfl
theorem md_set_spo (k : Nat → ClassId) (b : Nat → Nat) (S : MdV) (x : Int32) : (mdW k b S).set 0 (b 0, .inr (2, ([.int (m_ref S), .ref (b 1), .int (m_scs S), .int (m_spo S), .int (m_rdn S), .ref (b 2), .int (m_n S), .ref (b 3), .ref (b 4), .ref (b 5), .int (m_act S), .ref (b 6), .ref (b 7), .ref (b 8), .ref (b 9)] : List Value).set 3 (.int x))) = mdW k b (mu_spo S x) := rfl
theorem md_set_rdn (k : Nat → ClassId) (b : Nat → Nat) (S : MdV) (x : Int32) : (mdW k b S).set 0 (b 0, .inr (2, ([.int (m_ref S), .ref (b 1), .int (m_scs S), .int (m_spo S), .int (m_rdn S), .ref (b 2), .int (m_n S), .ref (b 3), .ref (b 4), .ref (b 5), .int (m_act S), .ref (b 6), .ref (b 7), .ref (b 8), .ref (b 9)] : List Value).set 4 (.int x))) = mdW k b (mu_rdn S x) := rfl
theorem md_set_n (k : Nat → ClassId) (b : Nat → Nat) (S : MdV) (x : Int32) : (mdW k b S).set 0 (b 0, .inr (2, ([.int (m_ref S), .ref (b 1), .int (m_scs S), .int (m_spo S), .int (m_rdn S), .ref (b 2), .int (m_n S), .ref (b 3), .ref (b 4), .ref (b 5), .int (m_act S), .ref (b 6), .ref (b 7), .ref (b 8), .ref (b 9)] : List Value).set 6 (.int x))) = mdW k b (mu_n S x) := rfl
theorem md_set_act (k : Nat → ClassId) (b : Nat → Nat) (S : MdV) (x : Int32) : (mdW k b S).set 0 (b 0, .inr (2, ([.int (m_ref S), .ref (b 1), .int (m_scs S), .int (m_spo S), .int (m_rdn S), .ref (b 2), .int (m_n S), .ref (b 3), .ref (b 4), .ref (b 5), .int (m_act S), .ref (b 6), .ref (b 7), .ref (b 8), .ref (b 9)] : List Value).set 10 (.int x))) = mdW k b (mu_act S x) := rfl
theorem md_set_scr (k : Nat → ClassId) (b : Nat → Nat) (S : MdV) (x : Nat → Int32) : (mdW k b S).set 1 (b 1, .inl (k 0, 120, .inl x)) = mdW k b (mu_scr S x) := rfl
theorem md_set_rrw (k : Nat → ClassId) (b : Nat → Nat) (S : MdV) (x : Nat → Int32) : (mdW k b S).set 2 (b 2, .inl (k 0, 64, .inl x)) = mdW k b (mu_rrw S x) := rfl
theorem md_set_now (k : Nat → ClassId) (b : Nat → Nat) (S : MdV) (x : Nat → Int32) : (mdW k b S).set 3 (b 3, .inl (k 0, 64, .inl x)) = mdW k b (mu_now S x) := rfl
theorem md_set_tri (k : Nat → ClassId) (b : Nat → Nat) (S : MdV) (x : Nat → Int32) : (mdW k b S).set 4 (b 4, .inl (k 0, 64, .inl x)) = mdW k b (mu_tri S x) := rfl
theorem md_set_dia (k : Nat → ClassId) (b : Nat → Nat) (S : MdV) (x : Nat → Int32) : (mdW k b S).set 5 (b 5, .inl (k 0, 896, .inl x)) = mdW k b (mu_dia S x) := rfl
theorem md_set_kep (k : Nat → ClassId) (b : Nat → Nat) (S : MdV) (x : Nat → Int32) : (mdW k b S).set 6 (b 6, .inl (k 0, 128, .inl x)) = mdW k b (mu_kep S x) := rfl
theorem md_set_isk (k : Nat → ClassId) (b : Nat → Nat) (S : MdV) (x : Nat → Int32) : (mdW k b S).set 7 (b 7, .inl (k 2, 2, .inl x)) = mdW k b (mu_isk S x) := rfl
theorem md_set_flo (k : Nat → ClassId) (b : Nat → Nat) (S : MdV) (x : Nat → Int32) : (mdW k b S).set 8 (b 8, .inl (k 0, 6, .inl x)) = mdW k b (mu_flo S x) := rfl
theorem md_set_sal (k : Nat → ClassId) (b : Nat → Nat) (S : MdV) (x : Nat → Int32) : (mdW k b S).set 9 (b 9, .inl (k 0, 6, .inl x)) = mdW k b (mu_sal S x) := rfl
theorem mo_set_ref (b : Nat → Nat) (S : MdV) (x : Int32) : ([mdO b S]).set 0 (b 0, .inr (2, ([.int (m_ref S), .ref (b 1), .int (m_scs S), .int (m_spo S), .int (m_rdn S), .ref (b 2), .int (m_n S), .ref (b 3), .ref (b 4), .ref (b 5), .int (m_act S), .ref (b 6), .ref (b 7), .ref (b 8), .ref (b 9)] : List Value).set 0 (.int x))) = [mdO b (mu_ref S x)] := rfl
theorem mo_set_scs (b : Nat → Nat) (S : MdV) (x : Int32) : ([mdO b S]).set 0 (b 0, .inr (2, ([.int (m_ref S), .ref (b 1), .int (m_scs S), .int (m_spo S), .int (m_rdn S), .ref (b 2), .int (m_n S), .ref (b 3), .ref (b 4), .ref (b 5), .int (m_act S), .ref (b 6), .ref (b 7), .ref (b 8), .ref (b 9)] : List Value).set 2 (.int x))) = [mdO b (mu_scs S x)] := rfl
theorem mo_set_spo (b : Nat → Nat) (S : MdV) (x : Int32) : ([mdO b S]).set 0 (b 0, .inr (2, ([.int (m_ref S), .ref (b 1), .int (m_scs S), .int (m_spo S), .int (m_rdn S), .ref (b 2), .int (m_n S), .ref (b 3), .ref (b 4), .ref (b 5), .int (m_act S), .ref (b 6), .ref (b 7), .ref (b 8), .ref (b 9)] : List Value).set 3 (.int x))) = [mdO b (mu_spo S x)] := rfl
theorem mo_set_rdn (b : Nat → Nat) (S : MdV) (x : Int32) : ([mdO b S]).set 0 (b 0, .inr (2, ([.int (m_ref S), .ref (b 1), .int (m_scs S), .int (m_spo S), .int (m_rdn S), .ref (b 2), .int (m_n S), .ref (b 3), .ref (b 4), .ref (b 5), .int (m_act S), .ref (b 6), .ref (b 7), .ref (b 8), .ref (b 9)] : List Value).set 4 (.int x))) = [mdO b (mu_rdn S x)] := rfl
theorem mo_set_n (b : Nat → Nat) (S : MdV) (x : Int32) : ([mdO b S]).set 0 (b 0, .inr (2, ([.int (m_ref S), .ref (b 1), .int (m_scs S), .int (m_spo S), .int (m_rdn S), .ref (b 2), .int (m_n S), .ref (b 3), .ref (b 4), .ref (b 5), .int (m_act S), .ref (b 6), .ref (b 7), .ref (b 8), .ref (b 9)] : List Value).set 6 (.int x))) = [mdO b (mu_n S x)] := rfl
theorem mo_set_act (b : Nat → Nat) (S : MdV) (x : Int32) : ([mdO b S]).set 0 (b 0, .inr (2, ([.int (m_ref S), .ref (b 1), .int (m_scs S), .int (m_spo S), .int (m_rdn S), .ref (b 2), .int (m_n S), .ref (b 3), .ref (b 4), .ref (b 5), .int (m_act S), .ref (b 6), .ref (b 7), .ref (b 8), .ref (b 9)] : List Value).set 10 (.int x))) = [mdO b (mu_act S x)] := rfl
theorem md_set_0 (k : Nat → ClassId) (b : Nat → Nat) (S : MdV) : (mdW k b S).set 0 (mdO b S) = mdW k b S := rfl
theorem st_set_0 (k : Nat → ClassId) (a : Nat → Nat) (S : StV) : (stW k a S).set 0 (a 0, .inr (0, [.int (s_n S), .ref (a 1), .int (s_clk S), .ref (a 2), .ref (a 3), .ref (a 4), .ref (a 5), .ref (a 6), .ref (a 7), .ref (a 8), .ref (a 9), .ref (a 10)])) = stW k a S := rfl
theorem mo_set_0 (b : Nat → Nat) (S : MdV) : [mdO b S].set 0 (mdO b S) = [mdO b S] := rfl
theorem s_n_su_n (S : StV) (x : Int32) : s_n (su_n S x) = x := rfl
theorem s_clk_su_n (S : StV) (x : Int32) : s_clk (su_n S x) = s_clk S := rfl
theorem s_set_su_n (S : StV) (x : Int32) : s_set (su_n S x) = s_set S := rfl
theorem s_cou_su_n (S : StV) (x : Int32) : s_cou (su_n S x) = s_cou S := rfl
theorem s_are_su_n (S : StV) (x : Int32) : s_are (su_n S x) = s_are S := rfl
theorem s_wat_su_n (S : StV) (x : Int32) : s_wat (su_n S x) = s_wat S := rfl
theorem s_sol_su_n (S : StV) (x : Int32) : s_sol (su_n S x) = s_sol S := rfl
theorem s_val_su_n (S : StV) (x : Int32) : s_val (su_n S x) = s_val S := rfl
theorem s_ble_su_n (S : StV) (x : Int32) : s_ble (su_n S x) = s_ble S := rfl
theorem s_sca_su_n (S : StV) (x : Int32) : s_sca (su_n S x) = s_sca S := rfl
theorem s_scl_su_n (S : StV) (x : Int32) : s_scl (su_n S x) = s_scl S := rfl
theorem s_lef_su_n (S : StV) (x : Int32) : s_lef (su_n S x) = s_lef S := rfl
theorem s_n_su_clk (S : StV) (x : Int32) : s_n (su_clk S x) = s_n S := rfl
theorem s_clk_su_clk (S : StV) (x : Int32) : s_clk (su_clk S x) = x := rfl
theorem s_set_su_clk (S : StV) (x : Int32) : s_set (su_clk S x) = s_set S := rfl
theorem s_cou_su_clk (S : StV) (x : Int32) : s_cou (su_clk S x) = s_cou S := rfl
theorem s_are_su_clk (S : StV) (x : Int32) : s_are (su_clk S x) = s_are S := rfl
theorem s_wat_su_clk (S : StV) (x : Int32) : s_wat (su_clk S x) = s_wat S := rfl
theorem s_sol_su_clk (S : StV) (x : Int32) : s_sol (su_clk S x) = s_sol S := rfl
theorem s_val_su_clk (S : StV) (x : Int32) : s_val (su_clk S x) = s_val S := rfl
theorem s_ble_su_clk (S : StV) (x : Int32) : s_ble (su_clk S x) = s_ble S := rfl
theorem s_sca_su_clk (S : StV) (x : Int32) : s_sca (su_clk S x) = s_sca S := rfl
theorem s_scl_su_clk (S : StV) (x : Int32) : s_scl (su_clk S x) = s_scl S := rfl
theorem s_lef_su_clk (S : StV) (x : Int32) : s_lef (su_clk S x) = s_lef S := rfl
theorem s_n_su_set (S : StV) (x : Nat → Int32) : s_n (su_set S x) = s_n S := rfl
theorem s_clk_su_set (S : StV) (x : Nat → Int32) : s_clk (su_set S x) = s_clk S := rfl
theorem s_set_su_set (S : StV) (x : Nat → Int32) : s_set (su_set S x) = x := rfl
theorem s_cou_su_set (S : StV) (x : Nat → Int32) : s_cou (su_set S x) = s_cou S := rfl
theorem s_are_su_set (S : StV) (x : Nat → Int32) : s_are (su_set S x) = s_are S := rfl
theorem s_wat_su_set (S : StV) (x : Nat → Int32) : s_wat (su_set S x) = s_wat S := rfl
theorem s_sol_su_set (S : StV) (x : Nat → Int32) : s_sol (su_set S x) = s_sol S := rfl
theorem s_val_su_set (S : StV) (x : Nat → Int32) : s_val (su_set S x) = s_val S := rfl
theorem s_ble_su_set (S : StV) (x : Nat → Int32) : s_ble (su_set S x) = s_ble S := rfl
theorem s_sca_su_set (S : StV) (x : Nat → Int32) : s_sca (su_set S x) = s_sca S := rfl
theorem s_scl_su_set (S : StV) (x : Nat → Int32) : s_scl (su_set S x) = s_scl S := rfl
theorem s_lef_su_set (S : StV) (x : Nat → Int32) : s_lef (su_set S x) = s_lef S := rfl
theorem s_n_su_cou (S : StV) (x : Nat → Int32) : s_n (su_cou S x) = s_n S := rfl
theorem s_clk_su_cou (S : StV) (x : Nat → Int32) : s_clk (su_cou S x) = s_clk S := rfl
theorem s_set_su_cou (S : StV) (x : Nat → Int32) : s_set (su_cou S x) = s_set S := rfl
theorem s_cou_su_cou (S : StV) (x : Nat → Int32) : s_cou (su_cou S x) = x := rfl
theorem s_are_su_cou (S : StV) (x : Nat → Int32) : s_are (su_cou S x) = s_are S := rfl
theorem s_wat_su_cou (S : StV) (x : Nat → Int32) : s_wat (su_cou S x) = s_wat S := rfl
theorem s_sol_su_cou (S : StV) (x : Nat → Int32) : s_sol (su_cou S x) = s_sol S := rfl
theorem s_val_su_cou (S : StV) (x : Nat → Int32) : s_val (su_cou S x) = s_val S := rfl
theorem s_ble_su_cou (S : StV) (x : Nat → Int32) : s_ble (su_cou S x) = s_ble S := rfl
theorem s_sca_su_cou (S : StV) (x : Nat → Int32) : s_sca (su_cou S x) = s_sca S := rfl
theorem s_scl_su_cou (S : StV) (x : Nat → Int32) : s_scl (su_cou S x) = s_scl S := rfl
theorem s_lef_su_cou (S : StV) (x : Nat → Int32) : s_lef (su_cou S x) = s_lef S := rfl
theorem s_n_su_are (S : StV) (x : Nat → Int32) : s_n (su_are S x) = s_n S := rfl
theorem s_clk_su_are (S : StV) (x : Nat → Int32) : s_clk (su_are S x) = s_clk S := rfl
theorem s_set_su_are (S : StV) (x : Nat → Int32) : s_set (su_are S x) = s_set S := rfl
theorem s_cou_su_are (S : StV) (x : Nat → Int32) : s_cou (su_are S x) = s_cou S := rfl
theorem s_are_su_are (S : StV) (x : Nat → Int32) : s_are (su_are S x) = x := rfl
theorem s_wat_su_are (S : StV) (x : Nat → Int32) : s_wat (su_are S x) = s_wat S := rfl
theorem s_sol_su_are (S : StV) (x : Nat → Int32) : s_sol (su_are S x) = s_sol S := rfl
theorem s_val_su_are (S : StV) (x : Nat → Int32) : s_val (su_are S x) = s_val S := rfl
theorem s_ble_su_are (S : StV) (x : Nat → Int32) : s_ble (su_are S x) = s_ble S := rfl
theorem s_sca_su_are (S : StV) (x : Nat → Int32) : s_sca (su_are S x) = s_sca S := rfl
theorem s_scl_su_are (S : StV) (x : Nat → Int32) : s_scl (su_are S x) = s_scl S := rfl
theorem s_lef_su_are (S : StV) (x : Nat → Int32) : s_lef (su_are S x) = s_lef S := rfl
theorem s_n_su_wat (S : StV) (x : Nat → Int32) : s_n (su_wat S x) = s_n S := rfl
theorem s_clk_su_wat (S : StV) (x : Nat → Int32) : s_clk (su_wat S x) = s_clk S := rfl
theorem s_set_su_wat (S : StV) (x : Nat → Int32) : s_set (su_wat S x) = s_set S := rfl
theorem s_cou_su_wat (S : StV) (x : Nat → Int32) : s_cou (su_wat S x) = s_cou S := rfl
theorem s_are_su_wat (S : StV) (x : Nat → Int32) : s_are (su_wat S x) = s_are S := rfl
theorem s_wat_su_wat (S : StV) (x : Nat → Int32) : s_wat (su_wat S x) = x := rfl
theorem s_sol_su_wat (S : StV) (x : Nat → Int32) : s_sol (su_wat S x) = s_sol S := rfl
theorem s_val_su_wat (S : StV) (x : Nat → Int32) : s_val (su_wat S x) = s_val S := rfl
theorem s_ble_su_wat (S : StV) (x : Nat → Int32) : s_ble (su_wat S x) = s_ble S := rfl
theorem s_sca_su_wat (S : StV) (x : Nat → Int32) : s_sca (su_wat S x) = s_sca S := rfl
theorem s_scl_su_wat (S : StV) (x : Nat → Int32) : s_scl (su_wat S x) = s_scl S := rfl
theorem s_lef_su_wat (S : StV) (x : Nat → Int32) : s_lef (su_wat S x) = s_lef S := rfl
theorem s_n_su_sol (S : StV) (x : Nat → Int32) : s_n (su_sol S x) = s_n S := rfl
theorem s_clk_su_sol (S : StV) (x : Nat → Int32) : s_clk (su_sol S x) = s_clk S := rfl
theorem s_set_su_sol (S : StV) (x : Nat → Int32) : s_set (su_sol S x) = s_set S := rfl
theorem s_cou_su_sol (S : StV) (x : Nat → Int32) : s_cou (su_sol S x) = s_cou S := rfl
theorem s_are_su_sol (S : StV) (x : Nat → Int32) : s_are (su_sol S x) = s_are S := rfl
theorem s_wat_su_sol (S : StV) (x : Nat → Int32) : s_wat (su_sol S x) = s_wat S := rfl
theorem s_sol_su_sol (S : StV) (x : Nat → Int32) : s_sol (su_sol S x) = x := rfl
theorem s_val_su_sol (S : StV) (x : Nat → Int32) : s_val (su_sol S x) = s_val S := rfl
theorem s_ble_su_sol (S : StV) (x : Nat → Int32) : s_ble (su_sol S x) = s_ble S := rfl
theorem s_sca_su_sol (S : StV) (x : Nat → Int32) : s_sca (su_sol S x) = s_sca S := rfl
theorem s_scl_su_sol (S : StV) (x : Nat → Int32) : s_scl (su_sol S x) = s_scl S := rfl
theorem s_lef_su_sol (S : StV) (x : Nat → Int32) : s_lef (su_sol S x) = s_lef S := rfl
theorem s_n_su_val (S : StV) (x : Nat → Int32) : s_n (su_val S x) = s_n S := rfl
theorem s_clk_su_val (S : StV) (x : Nat → Int32) : s_clk (su_val S x) = s_clk S := rfl
theorem s_set_su_val (S : StV) (x : Nat → Int32) : s_set (su_val S x) = s_set S := rfl
theorem s_cou_su_val (S : StV) (x : Nat → Int32) : s_cou (su_val S x) = s_cou S := rfl
theorem s_are_su_val (S : StV) (x : Nat → Int32) : s_are (su_val S x) = s_are S := rfl
theorem s_wat_su_val (S : StV) (x : Nat → Int32) : s_wat (su_val S x) = s_wat S := rfl
theorem s_sol_su_val (S : StV) (x : Nat → Int32) : s_sol (su_val S x) = s_sol S := rfl
theorem s_val_su_val (S : StV) (x : Nat → Int32) : s_val (su_val S x) = x := rfl
theorem s_ble_su_val (S : StV) (x : Nat → Int32) : s_ble (su_val S x) = s_ble S := rfl
theorem s_sca_su_val (S : StV) (x : Nat → Int32) : s_sca (su_val S x) = s_sca S := rfl
theorem s_scl_su_val (S : StV) (x : Nat → Int32) : s_scl (su_val S x) = s_scl S := rfl
theorem s_lef_su_val (S : StV) (x : Nat → Int32) : s_lef (su_val S x) = s_lef S := rfl
theorem s_n_su_ble (S : StV) (x : Nat → Int32) : s_n (su_ble S x) = s_n S := rfl
theorem s_clk_su_ble (S : StV) (x : Nat → Int32) : s_clk (su_ble S x) = s_clk S := rfl
theorem s_set_su_ble (S : StV) (x : Nat → Int32) : s_set (su_ble S x) = s_set S := rfl
theorem s_cou_su_ble (S : StV) (x : Nat → Int32) : s_cou (su_ble S x) = s_cou S := rfl
theorem s_are_su_ble (S : StV) (x : Nat → Int32) : s_are (su_ble S x) = s_are S := rfl
theorem s_wat_su_ble (S : StV) (x : Nat → Int32) : s_wat (su_ble S x) = s_wat S := rfl
theorem s_sol_su_ble (S : StV) (x : Nat → Int32) : s_sol (su_ble S x) = s_sol S := rfl
theorem s_val_su_ble (S : StV) (x : Nat → Int32) : s_val (su_ble S x) = s_val S := rfl
theorem s_ble_su_ble (S : StV) (x : Nat → Int32) : s_ble (su_ble S x) = x := rfl
theorem s_sca_su_ble (S : StV) (x : Nat → Int32) : s_sca (su_ble S x) = s_sca S := rfl
theorem s_scl_su_ble (S : StV) (x : Nat → Int32) : s_scl (su_ble S x) = s_scl S := rfl
theorem s_lef_su_ble (S : StV) (x : Nat → Int32) : s_lef (su_ble S x) = s_lef S := rfl
theorem s_n_su_sca (S : StV) (x : Nat → Int32) : s_n (su_sca S x) = s_n S := rfl
theorem s_clk_su_sca (S : StV) (x : Nat → Int32) : s_clk (su_sca S x) = s_clk S := rfl
theorem s_set_su_sca (S : StV) (x : Nat → Int32) : s_set (su_sca S x) = s_set S := rfl
theorem s_cou_su_sca (S : StV) (x : Nat → Int32) : s_cou (su_sca S x) = s_cou S := rfl
theorem s_are_su_sca (S : StV) (x : Nat → Int32) : s_are (su_sca S x) = s_are S := rfl
theorem s_wat_su_sca (S : StV) (x : Nat → Int32) : s_wat (su_sca S x) = s_wat S := rfl
theorem s_sol_su_sca (S : StV) (x : Nat → Int32) : s_sol (su_sca S x) = s_sol S := rfl
theorem s_val_su_sca (S : StV) (x : Nat → Int32) : s_val (su_sca S x) = s_val S := rfl
theorem s_ble_su_sca (S : StV) (x : Nat → Int32) : s_ble (su_sca S x) = s_ble S := rfl
theorem s_sca_su_sca (S : StV) (x : Nat → Int32) : s_sca (su_sca S x) = x := rfl
theorem s_scl_su_sca (S : StV) (x : Nat → Int32) : s_scl (su_sca S x) = s_scl S := rfl
theorem s_lef_su_sca (S : StV) (x : Nat → Int32) : s_lef (su_sca S x) = s_lef S := rfl
theorem s_n_su_scl (S : StV) (x : Nat → Int32) : s_n (su_scl S x) = s_n S := rfl
theorem s_clk_su_scl (S : StV) (x : Nat → Int32) : s_clk (su_scl S x) = s_clk S := rfl
theorem s_set_su_scl (S : StV) (x : Nat → Int32) : s_set (su_scl S x) = s_set S := rfl
theorem s_cou_su_scl (S : StV) (x : Nat → Int32) : s_cou (su_scl S x) = s_cou S := rfl
theorem s_are_su_scl (S : StV) (x : Nat → Int32) : s_are (su_scl S x) = s_are S := rfl
theorem s_wat_su_scl (S : StV) (x : Nat → Int32) : s_wat (su_scl S x) = s_wat S := rfl
theorem s_sol_su_scl (S : StV) (x : Nat → Int32) : s_sol (su_scl S x) = s_sol S := rfl
theorem s_val_su_scl (S : StV) (x : Nat → Int32) : s_val (su_scl S x) = s_val S := rfl
theorem s_ble_su_scl (S : StV) (x : Nat → Int32) : s_ble (su_scl S x) = s_ble S := rfl
theorem s_sca_su_scl (S : StV) (x : Nat → Int32) : s_sca (su_scl S x) = s_sca S := rfl
theorem s_scl_su_scl (S : StV) (x : Nat → Int32) : s_scl (su_scl S x) = x := rfl
theorem s_lef_su_scl (S : StV) (x : Nat → Int32) : s_lef (su_scl S x) = s_lef S := rfl
theorem s_n_su_lef (S : StV) (x : Nat → Int32) : s_n (su_lef S x) = s_n S := rfl
theorem s_clk_su_lef (S : StV) (x : Nat → Int32) : s_clk (su_lef S x) = s_clk S := rfl
theorem s_set_su_lef (S : StV) (x : Nat → Int32) : s_set (su_lef S x) = s_set S := rfl
theorem s_cou_su_lef (S : StV) (x : Nat → Int32) : s_cou (su_lef S x) = s_cou S := rfl
theorem s_are_su_lef (S : StV) (x : Nat → Int32) : s_are (su_lef S x) = s_are S := rfl
theorem s_wat_su_lef (S : StV) (x : Nat → Int32) : s_wat (su_lef S x) = s_wat S := rfl
theorem s_sol_su_lef (S : StV) (x : Nat → Int32) : s_sol (su_lef S x) = s_sol S := rfl
theorem s_val_su_lef (S : StV) (x : Nat → Int32) : s_val (su_lef S x) = s_val S := rfl
theorem s_ble_su_lef (S : StV) (x : Nat → Int32) : s_ble (su_lef S x) = s_ble S := rfl
theorem s_sca_su_lef (S : StV) (x : Nat → Int32) : s_sca (su_lef S x) = s_sca S := rfl
theorem s_scl_su_lef (S : StV) (x : Nat → Int32) : s_scl (su_lef S x) = s_scl S := rfl
theorem s_lef_su_lef (S : StV) (x : Nat → Int32) : s_lef (su_lef S x) = x := rfl
theorem m_ref_mu_ref (S : MdV) (x : Int32) : m_ref (mu_ref S x) = x := rfl
theorem m_scs_mu_ref (S : MdV) (x : Int32) : m_scs (mu_ref S x) = m_scs S := rfl
theorem m_spo_mu_ref (S : MdV) (x : Int32) : m_spo (mu_ref S x) = m_spo S := rfl
theorem m_rdn_mu_ref (S : MdV) (x : Int32) : m_rdn (mu_ref S x) = m_rdn S := rfl
theorem m_n_mu_ref (S : MdV) (x : Int32) : m_n (mu_ref S x) = m_n S := rfl
theorem m_act_mu_ref (S : MdV) (x : Int32) : m_act (mu_ref S x) = m_act S := rfl
theorem m_scr_mu_ref (S : MdV) (x : Int32) : m_scr (mu_ref S x) = m_scr S := rfl
theorem m_rrw_mu_ref (S : MdV) (x : Int32) : m_rrw (mu_ref S x) = m_rrw S := rfl
theorem m_now_mu_ref (S : MdV) (x : Int32) : m_now (mu_ref S x) = m_now S := rfl
theorem m_tri_mu_ref (S : MdV) (x : Int32) : m_tri (mu_ref S x) = m_tri S := rfl
theorem m_dia_mu_ref (S : MdV) (x : Int32) : m_dia (mu_ref S x) = m_dia S := rfl
theorem m_kep_mu_ref (S : MdV) (x : Int32) : m_kep (mu_ref S x) = m_kep S := rfl
theorem m_isk_mu_ref (S : MdV) (x : Int32) : m_isk (mu_ref S x) = m_isk S := rfl
theorem m_flo_mu_ref (S : MdV) (x : Int32) : m_flo (mu_ref S x) = m_flo S := rfl
theorem m_sal_mu_ref (S : MdV) (x : Int32) : m_sal (mu_ref S x) = m_sal S := rfl
theorem m_ref_mu_scs (S : MdV) (x : Int32) : m_ref (mu_scs S x) = m_ref S := rfl
theorem m_scs_mu_scs (S : MdV) (x : Int32) : m_scs (mu_scs S x) = x := rfl
theorem m_spo_mu_scs (S : MdV) (x : Int32) : m_spo (mu_scs S x) = m_spo S := rfl
theorem m_rdn_mu_scs (S : MdV) (x : Int32) : m_rdn (mu_scs S x) = m_rdn S := rfl
theorem m_n_mu_scs (S : MdV) (x : Int32) : m_n (mu_scs S x) = m_n S := rfl
theorem m_act_mu_scs (S : MdV) (x : Int32) : m_act (mu_scs S x) = m_act S := rfl
theorem m_scr_mu_scs (S : MdV) (x : Int32) : m_scr (mu_scs S x) = m_scr S := rfl
theorem m_rrw_mu_scs (S : MdV) (x : Int32) : m_rrw (mu_scs S x) = m_rrw S := rfl
theorem m_now_mu_scs (S : MdV) (x : Int32) : m_now (mu_scs S x) = m_now S := rfl
theorem m_tri_mu_scs (S : MdV) (x : Int32) : m_tri (mu_scs S x) = m_tri S := rfl
theorem m_dia_mu_scs (S : MdV) (x : Int32) : m_dia (mu_scs S x) = m_dia S := rfl
theorem m_kep_mu_scs (S : MdV) (x : Int32) : m_kep (mu_scs S x) = m_kep S := rfl
theorem m_isk_mu_scs (S : MdV) (x : Int32) : m_isk (mu_scs S x) = m_isk S := rfl
theorem m_flo_mu_scs (S : MdV) (x : Int32) : m_flo (mu_scs S x) = m_flo S := rfl
theorem m_sal_mu_scs (S : MdV) (x : Int32) : m_sal (mu_scs S x) = m_sal S := rfl
theorem m_ref_mu_spo (S : MdV) (x : Int32) : m_ref (mu_spo S x) = m_ref S := rfl
theorem m_scs_mu_spo (S : MdV) (x : Int32) : m_scs (mu_spo S x) = m_scs S := rfl
theorem m_spo_mu_spo (S : MdV) (x : Int32) : m_spo (mu_spo S x) = x := rfl
theorem m_rdn_mu_spo (S : MdV) (x : Int32) : m_rdn (mu_spo S x) = m_rdn S := rfl
theorem m_n_mu_spo (S : MdV) (x : Int32) : m_n (mu_spo S x) = m_n S := rfl
theorem m_act_mu_spo (S : MdV) (x : Int32) : m_act (mu_spo S x) = m_act S := rfl
theorem m_scr_mu_spo (S : MdV) (x : Int32) : m_scr (mu_spo S x) = m_scr S := rfl
theorem m_rrw_mu_spo (S : MdV) (x : Int32) : m_rrw (mu_spo S x) = m_rrw S := rfl
theorem m_now_mu_spo (S : MdV) (x : Int32) : m_now (mu_spo S x) = m_now S := rfl
theorem m_tri_mu_spo (S : MdV) (x : Int32) : m_tri (mu_spo S x) = m_tri S := rfl
theorem m_dia_mu_spo (S : MdV) (x : Int32) : m_dia (mu_spo S x) = m_dia S := rfl
theorem m_kep_mu_spo (S : MdV) (x : Int32) : m_kep (mu_spo S x) = m_kep S := rfl
theorem m_isk_mu_spo (S : MdV) (x : Int32) : m_isk (mu_spo S x) = m_isk S := rfl
theorem m_flo_mu_spo (S : MdV) (x : Int32) : m_flo (mu_spo S x) = m_flo S := rfl
theorem m_sal_mu_spo (S : MdV) (x : Int32) : m_sal (mu_spo S x) = m_sal S := rfl
theorem m_ref_mu_rdn (S : MdV) (x : Int32) : m_ref (mu_rdn S x) = m_ref S := rfl
theorem m_scs_mu_rdn (S : MdV) (x : Int32) : m_scs (mu_rdn S x) = m_scs S := rfl
theorem m_spo_mu_rdn (S : MdV) (x : Int32) : m_spo (mu_rdn S x) = m_spo S := rfl
theorem m_rdn_mu_rdn (S : MdV) (x : Int32) : m_rdn (mu_rdn S x) = x := rfl
theorem m_n_mu_rdn (S : MdV) (x : Int32) : m_n (mu_rdn S x) = m_n S := rfl
theorem m_act_mu_rdn (S : MdV) (x : Int32) : m_act (mu_rdn S x) = m_act S := rfl
theorem m_scr_mu_rdn (S : MdV) (x : Int32) : m_scr (mu_rdn S x) = m_scr S := rfl
theorem m_rrw_mu_rdn (S : MdV) (x : Int32) : m_rrw (mu_rdn S x) = m_rrw S := rfl
theorem m_now_mu_rdn (S : MdV) (x : Int32) : m_now (mu_rdn S x) = m_now S := rfl
theorem m_tri_mu_rdn (S : MdV) (x : Int32) : m_tri (mu_rdn S x) = m_tri S := rfl
theorem m_dia_mu_rdn (S : MdV) (x : Int32) : m_dia (mu_rdn S x) = m_dia S := rfl
theorem m_kep_mu_rdn (S : MdV) (x : Int32) : m_kep (mu_rdn S x) = m_kep S := rfl
theorem m_isk_mu_rdn (S : MdV) (x : Int32) : m_isk (mu_rdn S x) = m_isk S := rfl
theorem m_flo_mu_rdn (S : MdV) (x : Int32) : m_flo (mu_rdn S x) = m_flo S := rfl
theorem m_sal_mu_rdn (S : MdV) (x : Int32) : m_sal (mu_rdn S x) = m_sal S := rfl
theorem m_ref_mu_n (S : MdV) (x : Int32) : m_ref (mu_n S x) = m_ref S := rfl
theorem m_scs_mu_n (S : MdV) (x : Int32) : m_scs (mu_n S x) = m_scs S := rfl
theorem m_spo_mu_n (S : MdV) (x : Int32) : m_spo (mu_n S x) = m_spo S := rfl
theorem m_rdn_mu_n (S : MdV) (x : Int32) : m_rdn (mu_n S x) = m_rdn S := rfl
theorem m_n_mu_n (S : MdV) (x : Int32) : m_n (mu_n S x) = x := rfl
theorem m_act_mu_n (S : MdV) (x : Int32) : m_act (mu_n S x) = m_act S := rfl
theorem m_scr_mu_n (S : MdV) (x : Int32) : m_scr (mu_n S x) = m_scr S := rfl
theorem m_rrw_mu_n (S : MdV) (x : Int32) : m_rrw (mu_n S x) = m_rrw S := rfl
theorem m_now_mu_n (S : MdV) (x : Int32) : m_now (mu_n S x) = m_now S := rfl
theorem m_tri_mu_n (S : MdV) (x : Int32) : m_tri (mu_n S x) = m_tri S := rfl
theorem m_dia_mu_n (S : MdV) (x : Int32) : m_dia (mu_n S x) = m_dia S := rfl
theorem m_kep_mu_n (S : MdV) (x : Int32) : m_kep (mu_n S x) = m_kep S := rfl
theorem m_isk_mu_n (S : MdV) (x : Int32) : m_isk (mu_n S x) = m_isk S := rfl
theorem m_flo_mu_n (S : MdV) (x : Int32) : m_flo (mu_n S x) = m_flo S := rfl
theorem m_sal_mu_n (S : MdV) (x : Int32) : m_sal (mu_n S x) = m_sal S := rfl
theorem m_ref_mu_act (S : MdV) (x : Int32) : m_ref (mu_act S x) = m_ref S := rfl
theorem m_scs_mu_act (S : MdV) (x : Int32) : m_scs (mu_act S x) = m_scs S := rfl
theorem m_spo_mu_act (S : MdV) (x : Int32) : m_spo (mu_act S x) = m_spo S := rfl
theorem m_rdn_mu_act (S : MdV) (x : Int32) : m_rdn (mu_act S x) = m_rdn S := rfl
theorem m_n_mu_act (S : MdV) (x : Int32) : m_n (mu_act S x) = m_n S := rfl
theorem m_act_mu_act (S : MdV) (x : Int32) : m_act (mu_act S x) = x := rfl
theorem m_scr_mu_act (S : MdV) (x : Int32) : m_scr (mu_act S x) = m_scr S := rfl
theorem m_rrw_mu_act (S : MdV) (x : Int32) : m_rrw (mu_act S x) = m_rrw S := rfl
theorem m_now_mu_act (S : MdV) (x : Int32) : m_now (mu_act S x) = m_now S := rfl
theorem m_tri_mu_act (S : MdV) (x : Int32) : m_tri (mu_act S x) = m_tri S := rfl
theorem m_dia_mu_act (S : MdV) (x : Int32) : m_dia (mu_act S x) = m_dia S := rfl
theorem m_kep_mu_act (S : MdV) (x : Int32) : m_kep (mu_act S x) = m_kep S := rfl
theorem m_isk_mu_act (S : MdV) (x : Int32) : m_isk (mu_act S x) = m_isk S := rfl
theorem m_flo_mu_act (S : MdV) (x : Int32) : m_flo (mu_act S x) = m_flo S := rfl
theorem m_sal_mu_act (S : MdV) (x : Int32) : m_sal (mu_act S x) = m_sal S := rfl
theorem m_ref_mu_scr (S : MdV) (x : Nat → Int32) : m_ref (mu_scr S x) = m_ref S := rfl
theorem m_scs_mu_scr (S : MdV) (x : Nat → Int32) : m_scs (mu_scr S x) = m_scs S := rfl
theorem m_spo_mu_scr (S : MdV) (x : Nat → Int32) : m_spo (mu_scr S x) = m_spo S := rfl
theorem m_rdn_mu_scr (S : MdV) (x : Nat → Int32) : m_rdn (mu_scr S x) = m_rdn S := rfl
theorem m_n_mu_scr (S : MdV) (x : Nat → Int32) : m_n (mu_scr S x) = m_n S := rfl
theorem m_act_mu_scr (S : MdV) (x : Nat → Int32) : m_act (mu_scr S x) = m_act S := rfl
theorem m_scr_mu_scr (S : MdV) (x : Nat → Int32) : m_scr (mu_scr S x) = x := rfl
theorem m_rrw_mu_scr (S : MdV) (x : Nat → Int32) : m_rrw (mu_scr S x) = m_rrw S := rfl
theorem m_now_mu_scr (S : MdV) (x : Nat → Int32) : m_now (mu_scr S x) = m_now S := rfl
theorem m_tri_mu_scr (S : MdV) (x : Nat → Int32) : m_tri (mu_scr S x) = m_tri S := rfl
theorem m_dia_mu_scr (S : MdV) (x : Nat → Int32) : m_dia (mu_scr S x) = m_dia S := rfl
theorem m_kep_mu_scr (S : MdV) (x : Nat → Int32) : m_kep (mu_scr S x) = m_kep S := rfl
theorem m_isk_mu_scr (S : MdV) (x : Nat → Int32) : m_isk (mu_scr S x) = m_isk S := rfl
theorem m_flo_mu_scr (S : MdV) (x : Nat → Int32) : m_flo (mu_scr S x) = m_flo S := rfl
theorem m_sal_mu_scr (S : MdV) (x : Nat → Int32) : m_sal (mu_scr S x) = m_sal S := rfl
theorem m_ref_mu_rrw (S : MdV) (x : Nat → Int32) : m_ref (mu_rrw S x) = m_ref S := rfl
theorem m_scs_mu_rrw (S : MdV) (x : Nat → Int32) : m_scs (mu_rrw S x) = m_scs S := rfl
theorem m_spo_mu_rrw (S : MdV) (x : Nat → Int32) : m_spo (mu_rrw S x) = m_spo S := rfl
theorem m_rdn_mu_rrw (S : MdV) (x : Nat → Int32) : m_rdn (mu_rrw S x) = m_rdn S := rfl
theorem m_n_mu_rrw (S : MdV) (x : Nat → Int32) : m_n (mu_rrw S x) = m_n S := rfl
theorem m_act_mu_rrw (S : MdV) (x : Nat → Int32) : m_act (mu_rrw S x) = m_act S := rfl
theorem m_scr_mu_rrw (S : MdV) (x : Nat → Int32) : m_scr (mu_rrw S x) = m_scr S := rfl
theorem m_rrw_mu_rrw (S : MdV) (x : Nat → Int32) : m_rrw (mu_rrw S x) = x := rfl
theorem m_now_mu_rrw (S : MdV) (x : Nat → Int32) : m_now (mu_rrw S x) = m_now S := rfl
theorem m_tri_mu_rrw (S : MdV) (x : Nat → Int32) : m_tri (mu_rrw S x) = m_tri S := rfl
theorem m_dia_mu_rrw (S : MdV) (x : Nat → Int32) : m_dia (mu_rrw S x) = m_dia S := rfl
theorem m_kep_mu_rrw (S : MdV) (x : Nat → Int32) : m_kep (mu_rrw S x) = m_kep S := rfl
theorem m_isk_mu_rrw (S : MdV) (x : Nat → Int32) : m_isk (mu_rrw S x) = m_isk S := rfl
theorem m_flo_mu_rrw (S : MdV) (x : Nat → Int32) : m_flo (mu_rrw S x) = m_flo S := rfl
theorem m_sal_mu_rrw (S : MdV) (x : Nat → Int32) : m_sal (mu_rrw S x) = m_sal S := rfl
theorem m_ref_mu_now (S : MdV) (x : Nat → Int32) : m_ref (mu_now S x) = m_ref S := rfl
theorem m_scs_mu_now (S : MdV) (x : Nat → Int32) : m_scs (mu_now S x) = m_scs S := rfl
theorem m_spo_mu_now (S : MdV) (x : Nat → Int32) : m_spo (mu_now S x) = m_spo S := rfl
theorem m_rdn_mu_now (S : MdV) (x : Nat → Int32) : m_rdn (mu_now S x) = m_rdn S := rfl
theorem m_n_mu_now (S : MdV) (x : Nat → Int32) : m_n (mu_now S x) = m_n S := rfl
theorem m_act_mu_now (S : MdV) (x : Nat → Int32) : m_act (mu_now S x) = m_act S := rfl
theorem m_scr_mu_now (S : MdV) (x : Nat → Int32) : m_scr (mu_now S x) = m_scr S := rfl
theorem m_rrw_mu_now (S : MdV) (x : Nat → Int32) : m_rrw (mu_now S x) = m_rrw S := rfl
theorem m_now_mu_now (S : MdV) (x : Nat → Int32) : m_now (mu_now S x) = x := rfl
theorem m_tri_mu_now (S : MdV) (x : Nat → Int32) : m_tri (mu_now S x) = m_tri S := rfl
theorem m_dia_mu_now (S : MdV) (x : Nat → Int32) : m_dia (mu_now S x) = m_dia S := rfl
theorem m_kep_mu_now (S : MdV) (x : Nat → Int32) : m_kep (mu_now S x) = m_kep S := rfl
theorem m_isk_mu_now (S : MdV) (x : Nat → Int32) : m_isk (mu_now S x) = m_isk S := rfl
theorem m_flo_mu_now (S : MdV) (x : Nat → Int32) : m_flo (mu_now S x) = m_flo S := rfl
theorem m_sal_mu_now (S : MdV) (x : Nat → Int32) : m_sal (mu_now S x) = m_sal S := rfl
theorem m_ref_mu_tri (S : MdV) (x : Nat → Int32) : m_ref (mu_tri S x) = m_ref S := rfl
theorem m_scs_mu_tri (S : MdV) (x : Nat → Int32) : m_scs (mu_tri S x) = m_scs S := rfl
theorem m_spo_mu_tri (S : MdV) (x : Nat → Int32) : m_spo (mu_tri S x) = m_spo S := rfl
theorem m_rdn_mu_tri (S : MdV) (x : Nat → Int32) : m_rdn (mu_tri S x) = m_rdn S := rfl
theorem m_n_mu_tri (S : MdV) (x : Nat → Int32) : m_n (mu_tri S x) = m_n S := rfl
theorem m_act_mu_tri (S : MdV) (x : Nat → Int32) : m_act (mu_tri S x) = m_act S := rfl
theorem m_scr_mu_tri (S : MdV) (x : Nat → Int32) : m_scr (mu_tri S x) = m_scr S := rfl
theorem m_rrw_mu_tri (S : MdV) (x : Nat → Int32) : m_rrw (mu_tri S x) = m_rrw S := rfl
theorem m_now_mu_tri (S : MdV) (x : Nat → Int32) : m_now (mu_tri S x) = m_now S := rfl
theorem m_tri_mu_tri (S : MdV) (x : Nat → Int32) : m_tri (mu_tri S x) = x := rfl
theorem m_dia_mu_tri (S : MdV) (x : Nat → Int32) : m_dia (mu_tri S x) = m_dia S := rfl
theorem m_kep_mu_tri (S : MdV) (x : Nat → Int32) : m_kep (mu_tri S x) = m_kep S := rfl
theorem m_isk_mu_tri (S : MdV) (x : Nat → Int32) : m_isk (mu_tri S x) = m_isk S := rfl
theorem m_flo_mu_tri (S : MdV) (x : Nat → Int32) : m_flo (mu_tri S x) = m_flo S := rfl
theorem m_sal_mu_tri (S : MdV) (x : Nat → Int32) : m_sal (mu_tri S x) = m_sal S := rfl
theorem m_ref_mu_dia (S : MdV) (x : Nat → Int32) : m_ref (mu_dia S x) = m_ref S := rfl
theorem m_scs_mu_dia (S : MdV) (x : Nat → Int32) : m_scs (mu_dia S x) = m_scs S := rfl
theorem m_spo_mu_dia (S : MdV) (x : Nat → Int32) : m_spo (mu_dia S x) = m_spo S := rfl
theorem m_rdn_mu_dia (S : MdV) (x : Nat → Int32) : m_rdn (mu_dia S x) = m_rdn S := rfl
theorem m_n_mu_dia (S : MdV) (x : Nat → Int32) : m_n (mu_dia S x) = m_n S := rfl
theorem m_act_mu_dia (S : MdV) (x : Nat → Int32) : m_act (mu_dia S x) = m_act S := rfl
theorem m_scr_mu_dia (S : MdV) (x : Nat → Int32) : m_scr (mu_dia S x) = m_scr S := rfl
theorem m_rrw_mu_dia (S : MdV) (x : Nat → Int32) : m_rrw (mu_dia S x) = m_rrw S := rfl
theorem m_now_mu_dia (S : MdV) (x : Nat → Int32) : m_now (mu_dia S x) = m_now S := rfl
theorem m_tri_mu_dia (S : MdV) (x : Nat → Int32) : m_tri (mu_dia S x) = m_tri S := rfl
theorem m_dia_mu_dia (S : MdV) (x : Nat → Int32) : m_dia (mu_dia S x) = x := rfl
theorem m_kep_mu_dia (S : MdV) (x : Nat → Int32) : m_kep (mu_dia S x) = m_kep S := rfl
theorem m_isk_mu_dia (S : MdV) (x : Nat → Int32) : m_isk (mu_dia S x) = m_isk S := rfl
theorem m_flo_mu_dia (S : MdV) (x : Nat → Int32) : m_flo (mu_dia S x) = m_flo S := rfl
theorem m_sal_mu_dia (S : MdV) (x : Nat → Int32) : m_sal (mu_dia S x) = m_sal S := rfl
theorem m_ref_mu_kep (S : MdV) (x : Nat → Int32) : m_ref (mu_kep S x) = m_ref S := rfl
theorem m_scs_mu_kep (S : MdV) (x : Nat → Int32) : m_scs (mu_kep S x) = m_scs S := rfl
theorem m_spo_mu_kep (S : MdV) (x : Nat → Int32) : m_spo (mu_kep S x) = m_spo S := rfl
theorem m_rdn_mu_kep (S : MdV) (x : Nat → Int32) : m_rdn (mu_kep S x) = m_rdn S := rfl
theorem m_n_mu_kep (S : MdV) (x : Nat → Int32) : m_n (mu_kep S x) = m_n S := rfl
theorem m_act_mu_kep (S : MdV) (x : Nat → Int32) : m_act (mu_kep S x) = m_act S := rfl
theorem m_scr_mu_kep (S : MdV) (x : Nat → Int32) : m_scr (mu_kep S x) = m_scr S := rfl
theorem m_rrw_mu_kep (S : MdV) (x : Nat → Int32) : m_rrw (mu_kep S x) = m_rrw S := rfl
theorem m_now_mu_kep (S : MdV) (x : Nat → Int32) : m_now (mu_kep S x) = m_now S := rfl
theorem m_tri_mu_kep (S : MdV) (x : Nat → Int32) : m_tri (mu_kep S x) = m_tri S := rfl
theorem m_dia_mu_kep (S : MdV) (x : Nat → Int32) : m_dia (mu_kep S x) = m_dia S := rfl
theorem m_kep_mu_kep (S : MdV) (x : Nat → Int32) : m_kep (mu_kep S x) = x := rfl
theorem m_isk_mu_kep (S : MdV) (x : Nat → Int32) : m_isk (mu_kep S x) = m_isk S := rfl
theorem m_flo_mu_kep (S : MdV) (x : Nat → Int32) : m_flo (mu_kep S x) = m_flo S := rfl
theorem m_sal_mu_kep (S : MdV) (x : Nat → Int32) : m_sal (mu_kep S x) = m_sal S := rfl
theorem m_ref_mu_isk (S : MdV) (x : Nat → Int32) : m_ref (mu_isk S x) = m_ref S := rfl
theorem m_scs_mu_isk (S : MdV) (x : Nat → Int32) : m_scs (mu_isk S x) = m_scs S := rfl
theorem m_spo_mu_isk (S : MdV) (x : Nat → Int32) : m_spo (mu_isk S x) = m_spo S := rfl
theorem m_rdn_mu_isk (S : MdV) (x : Nat → Int32) : m_rdn (mu_isk S x) = m_rdn S := rfl
theorem m_n_mu_isk (S : MdV) (x : Nat → Int32) : m_n (mu_isk S x) = m_n S := rfl
theorem m_act_mu_isk (S : MdV) (x : Nat → Int32) : m_act (mu_isk S x) = m_act S := rfl
theorem m_scr_mu_isk (S : MdV) (x : Nat → Int32) : m_scr (mu_isk S x) = m_scr S := rfl
theorem m_rrw_mu_isk (S : MdV) (x : Nat → Int32) : m_rrw (mu_isk S x) = m_rrw S := rfl
theorem m_now_mu_isk (S : MdV) (x : Nat → Int32) : m_now (mu_isk S x) = m_now S := rfl
theorem m_tri_mu_isk (S : MdV) (x : Nat → Int32) : m_tri (mu_isk S x) = m_tri S := rfl
theorem m_dia_mu_isk (S : MdV) (x : Nat → Int32) : m_dia (mu_isk S x) = m_dia S := rfl
theorem m_kep_mu_isk (S : MdV) (x : Nat → Int32) : m_kep (mu_isk S x) = m_kep S := rfl
theorem m_isk_mu_isk (S : MdV) (x : Nat → Int32) : m_isk (mu_isk S x) = x := rfl
theorem m_flo_mu_isk (S : MdV) (x : Nat → Int32) : m_flo (mu_isk S x) = m_flo S := rfl
theorem m_sal_mu_isk (S : MdV) (x : Nat → Int32) : m_sal (mu_isk S x) = m_sal S := rfl
theorem m_ref_mu_flo (S : MdV) (x : Nat → Int32) : m_ref (mu_flo S x) = m_ref S := rfl
theorem m_scs_mu_flo (S : MdV) (x : Nat → Int32) : m_scs (mu_flo S x) = m_scs S := rfl
theorem m_spo_mu_flo (S : MdV) (x : Nat → Int32) : m_spo (mu_flo S x) = m_spo S := rfl
theorem m_rdn_mu_flo (S : MdV) (x : Nat → Int32) : m_rdn (mu_flo S x) = m_rdn S := rfl
theorem m_n_mu_flo (S : MdV) (x : Nat → Int32) : m_n (mu_flo S x) = m_n S := rfl
theorem m_act_mu_flo (S : MdV) (x : Nat → Int32) : m_act (mu_flo S x) = m_act S := rfl
theorem m_scr_mu_flo (S : MdV) (x : Nat → Int32) : m_scr (mu_flo S x) = m_scr S := rfl
theorem m_rrw_mu_flo (S : MdV) (x : Nat → Int32) : m_rrw (mu_flo S x) = m_rrw S := rfl
theorem m_now_mu_flo (S : MdV) (x : Nat → Int32) : m_now (mu_flo S x) = m_now S := rfl
theorem m_tri_mu_flo (S : MdV) (x : Nat → Int32) : m_tri (mu_flo S x) = m_tri S := rfl
theorem m_dia_mu_flo (S : MdV) (x : Nat → Int32) : m_dia (mu_flo S x) = m_dia S := rfl
theorem m_kep_mu_flo (S : MdV) (x : Nat → Int32) : m_kep (mu_flo S x) = m_kep S := rfl
theorem m_isk_mu_flo (S : MdV) (x : Nat → Int32) : m_isk (mu_flo S x) = m_isk S := rfl
theorem m_flo_mu_flo (S : MdV) (x : Nat → Int32) : m_flo (mu_flo S x) = x := rfl
theorem m_sal_mu_flo (S : MdV) (x : Nat → Int32) : m_sal (mu_flo S x) = m_sal S := rfl
theorem m_ref_mu_sal (S : MdV) (x : Nat → Int32) : m_ref (mu_sal S x) = m_ref S := rfl
theorem m_scs_mu_sal (S : MdV) (x : Nat → Int32) : m_scs (mu_sal S x) = m_scs S := rfl
theorem m_spo_mu_sal (S : MdV) (x : Nat → Int32) : m_spo (mu_sal S x) = m_spo S := rfl
theorem m_rdn_mu_sal (S : MdV) (x : Nat → Int32) : m_rdn (mu_sal S x) = m_rdn S := rfl
theorem m_n_mu_sal (S : MdV) (x : Nat → Int32) : m_n (mu_sal S x) = m_n S := rfl
theorem m_act_mu_sal (S : MdV) (x : Nat → Int32) : m_act (mu_sal S x) = m_act S := rfl
theorem m_scr_mu_sal (S : MdV) (x : Nat → Int32) : m_scr (mu_sal S x) = m_scr S := rfl
theorem m_rrw_mu_sal (S : MdV) (x : Nat → Int32) : m_rrw (mu_sal S x) = m_rrw S := rfl
theorem m_now_mu_sal (S : MdV) (x : Nat → Int32) : m_now (mu_sal S x) = m_now S := rfl
theorem m_tri_mu_sal (S : MdV) (x : Nat → Int32) : m_tri (mu_sal S x) = m_tri S := rfl
theorem m_dia_mu_sal (S : MdV) (x : Nat → Int32) : m_dia (mu_sal S x) = m_dia S := rfl
theorem m_kep_mu_sal (S : MdV) (x : Nat → Int32) : m_kep (mu_sal S x) = m_kep S := rfl
theorem m_isk_mu_sal (S : MdV) (x : Nat → Int32) : m_isk (mu_sal S x) = m_isk S := rfl
theorem m_flo_mu_sal (S : MdV) (x : Nat → Int32) : m_flo (mu_sal S x) = m_flo S := rfl
theorem m_sal_mu_sal (S : MdV) (x : Nat → Int32) : m_sal (mu_sal S x) = x := rfl
