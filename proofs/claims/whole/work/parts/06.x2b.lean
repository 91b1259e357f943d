def f_X2_turns_103 (k_47 : Int32 → Int32 → Int32 → MdV → Option (Int32 × MdV)) (x3_103 : Int32) (x4_103 : Int32) (x5_103 : Int32) (M_103 : MdV) : Option (Int32 × MdV) := bd (f_X2_ticksOn M_103 (m_tri M_103) (m_flo M_103) (m_sal M_103) 5) fun ⟨v_1, q_2, q_3, q_4⟩ => nm (mu_sal (mu_flo (mu_tri M_103 q_2) q_3) q_4) fun q_6 => nm (x4_103 + v_1) fun v_7 => if x3_103 ≤ (m_n q_6) then (k_47 1 v_7 (x5_103 + 1) q_6) else (gb (nz ((m_n q_6) + 1)) <| nm (x3_103 / ((m_n q_6) + 1)) fun v_10 => k_47 v_10 v_7 (x5_103 + 1) q_6)
def f_X2_turns_87 (k_47 : Int32 → Int32 → Int32 → MdV → Option (Int32 × MdV)) (x3_87 : Int32) (x4_87 : Int32) (x5_87 : Int32) (x6_87 : Int32) (M_87 : MdV) : Option (Int32 × MdV) := if x6_87 < 0 then (f_X2_turns_103 k_47 x3_87 x4_87 x5_87 M_87) else (gb (inb (42 + x6_87) 64) <| nm (mu_tri M_87 (upd (m_tri M_87) (42 + x6_87).toNatClampNeg 5)) fun q_13 => f_X2_turns_103 k_47 x3_87 x4_87 x5_87 q_13)
def f_X2_turns_47 (p1 : Int32) (p2 : Int32) : Nat → Int32 → Int32 → Int32 → MdV → Option (Int32 × MdV)
  | 0, _, _, _, _ => none
  | fu + 1, x3_47, x4_47, x5_47, M_47 => if p1 ≤ x5_47 then (some (x4_47, M_47)) else (gb (nz x3_47) <| gb (nz ((m_n M_47) + 1)) <| nm (((p2 / x3_47) - (p2 / x3_47) / ((m_n M_47) + 1) * ((m_n M_47) + 1)) - 1) fun v_17 => if v_17 < 0 then (f_X2_turns_87 (f_X2_turns_47 p1 p2 fu) x3_47 x4_47 x5_47 v_17 M_47) else (bd (f_X2_works (m_tri M_47) v_17) fun v_19 => if v_19 = 0 then (some ((-9), M_47)) else (f_X2_turns_87 (f_X2_turns_47 p1 p2 fu) x3_47 x4_47 x5_47 v_17 M_47)))
def f_X2_turns_20 (p1 : Int32) (p2 : Int32) : Nat → Int32 → Int32 → MdV → Option (Int32 × MdV)
  | 0, _, _, _ => none
  | fu + 1, x3_20, x4_20, M_20 => if p1 ≤ x4_20 then (f_X2_turns_47 p1 p2 2000 x3_20 0 0 M_20) else (nm (x3_20 * ((m_n M_20) + 1)) fun v_23 => (f_X2_turns_20 p1 p2 fu) v_23 (x4_20 + 1) M_20)
def f_X2_turns (M : MdV) (p1 : Int32) (p2 : Int32) : Option (Int32 × MdV) := bd (f_X2_copy 64 64 (m_now M) (m_tri M) 0 0 64) fun q_24 => nm (mu_tri M q_24) fun q_26 => f_X2_turns_20 p1 p2 2000 1 1 q_26
set_option maxRecDepth 100000 in
set_option maxHeartbeats 4000000 in
theorem c_X2_turns (l : Launch) (D : va_G) (k : Nat → ClassId) (b : Nat → Nat) (M : MdV) (p1 : Int32) (p2 : Int32) (o0 : Int32) (o1 : MdV) (h : f_X2_turns M p1 p2 = some (o0, o1)) : Ck l D (tyK k) yX2_turns wsX2_turns ({ frames := 5, cells := 0, slots := 0, locals := 118 } : Room) [.ref (b 0), .int p1, .int p2] (mdW k b M) (some (.int o0)) (mdW k b o1) := by
  refine Ck_of (cc := cX2_turns) (maxL := 7) (ret := (some .int)) (by decide) rfl (Nat.le_of_ble_eq_true rfl) ?_
  intro p e s m args below meth c A ls hx hb hr hml hts hown hlocks hK hA hP hD hS hl
  have hl : lv_has ls 7 [(0, .ref (b 0)), (1, .int p1), (2, .int p2)] := hl
  have hP : va_P D vwCl (mdW k b M) s.heap := hP
  have w_0 := hts (.fieldLink RX2 19 "EffectTrainModel" "trial" "[I") (by decide +kernel)
  have w_1 : ∀ w ∈ wsX20, w ∈ wsX2_turns := by decide +kernel
  have w_2 := hts (.fieldLink RX2 38 "EffectTrainModel" "n" "I") (by decide +kernel)
  have w_3 := hts (.fieldLink RX2 16 "EffectTrainModel" "now" "[I") (by decide +kernel)
  unfold f_X2_turns at h
  have hC_47 : ∀ (fu_47 : Nat) (x3_47 : Int32) (x4_47 : Int32) (x5_47 : Int32) (M_47 : MdV) (H : Heap) (locs : List Loc) (ls : Array Slot), va_P D vwCl (mdW k b M_47) H → va_D A (mdW k b M_47) → va_S A s.heap H locs → lv_has ls 7 [(0, .ref (b 0)), (1, .int p1), (2, .int p2), (3, .int x3_47), (4, .int x4_47), (5, .int x5_47)] → f_X2_turns_47 p1 p2 fu_47 x3_47 x4_47 x5_47 M_47 = some (o0, o1) → W p l e ({ frames := 5, cells := 0, slots := 0, locals := 118 } : Room) s m args below meth c H locs 0 0 (MQ below (Qk D A (some (.int o0)) (mdW k b o1)) args s 0 0 A) (F0 m 47 ls []) := by
    intro fu_47
    induction fu_47 with
    | zero => intro x3_47 x4_47 x5_47 M_47 H locs ls _ _ _ _ h; exact (no_l h).elim
    | succ fu_47 ih_47 =>
      intro x3_47 x4_47 x5_47 M_47 H locs ls hP hD hS hl h
      rw [f_X2_turns_47] at h
      have hC_103 : ∀ (x3_103 : Int32) (x4_103 : Int32) (x5_103 : Int32) (M_103 : MdV) (H : Heap) (locs : List Loc) (ls : Array Slot), va_P D vwCl (mdW k b M_103) H → va_D A (mdW k b M_103) → va_S A s.heap H locs → lv_has ls 7 [(0, .ref (b 0)), (1, .int p1), (2, .int p2), (3, .int x3_103), (4, .int x4_103), (5, .int x5_103)] → f_X2_turns_103 (f_X2_turns_47 p1 p2 fu_47) x3_103 x4_103 x5_103 M_103 = some (o0, o1) → W p l e ({ frames := 5, cells := 0, slots := 0, locals := 118 } : Room) s m args below meth c H locs 0 0 (MQ below (Qk D A (some (.int o0)) (mdW k b o1)) args s 0 0 A) (F0 m 103 ls []) := by
        intro x3_103 x4_103 x5_103 M_103 H locs ls hP hD hS hl h
        unfold f_X2_turns_103 at h
        refine lv_iload hx hb dX2_turns_103 (lv_at hl 4 rfl) ?_
        refine lv_aload_n hx hb dX2_turns_105 rfl (lv_at hl 0 rfl) ?_
        refine lv_aload_n hx hb dX2_turns_106 rfl (lv_at hl 0 rfl) ?_
        refine va_get (D := D) (ci := 2) (v := .ref (b 4)) (C := RX2) (T := TX2) (N := 15) hx hb hts w_1 hown hK hP 0 rfl rfl 8 (by decide) w_0 (fun _ h9 => h9) rfl dX2_turns_107 ?_
        refine lv_iconst (v := 5) hx hb dX2_turns_110 (by decide) ?_
        obtain ⟨⟨v_1, q_2, q_3, q_4⟩, hv_5, h⟩ := bd_l h
        obtain ⟨q_6, eq_6⟩ : ∃ y : MdV, y = mu_sal (mu_flo (mu_tri M_103 q_2) q_3) q_4 := ⟨_, rfl⟩
        have h := nm_l h eq_6
        refine Ck_V (As := [.ref (b 4), .int 5]) (rest := [.int x4_103]) (wc := [mdO b M_103] ++ [(b 4, .inl (k 0, 64, .inl (m_tri M_103)))] ++ [(b 8, .inl (k 0, 6, .inl (m_flo M_103)))] ++ [(b 9, .inl (k 0, 6, .inl (m_sal M_103)))]) (wc' := [mdO b M_103] ++ [(b 4, .inl (k 0, 64, .inl q_2))] ++ [(b 8, .inl (k 0, 6, .inl q_3))] ++ [(b 9, .inl (k 0, 6, .inl q_4))]) (w0' := mdW k b q_6) ⟨hx, hb, hml, hown, hts⟩ (c_X2_ticksOn l D k b (b 4) M_103 (m_tri M_103) (m_flo M_103) (m_sal M_103) 5 v_1 q_2 q_3 q_4 hv_5) (cwV 2 hts gX2_turns_X2_ticksOn rfl rfl rfl (by decide +kernel) ⟨Nat.le_of_ble_eq_true rfl, Nat.le_of_ble_eq_true rfl⟩) hK hP hD hS hA (q0 := 0) (ci := 2) rfl rfl [0, 4, 8, 9] rfl (by decide) rfl (by rw [eq_6]; simp only [va_sets, List.cons_append, List.nil_append, md_set_0, md_set_tri, md_set_flo, md_set_sal]) rfl hl.1 rfl (Nat.le_of_ble_eq_true rfl) dX2_turns_111 ⟨Nat.le_of_ble_eq_true rfl, Nat.le_of_ble_eq_true rfl⟩ (fun H locs hP hD hS => ?_)
        refine W.eq (g2 := F0 m 114 ls [.int v_1, .int x4_103]) rfl ?_
        refine lv_iadd hx hb dX2_turns_114 ?_
        refine lv_topi (fun v_7 ev_7 => ?_)
        have h := nm_l h ev_7
        refine lv_istore (lv' := [(4, .int v_7), (0, .ref (b 0)), (1, .int p1), (2, .int p2), (3, .int x3_103), (5, .int x5_103)]) hx hb dX2_turns_115 hl (by decide) rfl (fun ls hl => ?_)
        refine lv_iload_n hx hb dX2_turns_117 rfl (lv_at hl 4 rfl) ?_
        refine lv_aload_n hx hb dX2_turns_118 rfl (lv_at hl 1 rfl) ?_
        refine va_get (D := D) (ci := 2) (v := .int (m_n q_6)) (C := RX2) (T := TX2) (N := 15) hx hb hts w_1 hown hK hP 0 rfl rfl 6 (by decide) w_2 (fun _ h9 => h9) rfl dX2_turns_119 ?_
        refine lv_icmp_le (tgt := 136) hx hb dX2_turns_122 (by decide) (fun c_8 => ?_) (fun c_8 => ?_)
        · have h := it_l c_8 h
          refine lv_iconst (v := 1) hx hb dX2_turns_136 (by decide) ?_
          refine lv_istore_n (lv' := [(3, .int 1), (4, .int v_7), (0, .ref (b 0)), (1, .int p1), (2, .int p2), (5, .int x5_103)]) hx hb dX2_turns_137 rfl hl (by decide) rfl (fun ls hl => ?_)
          refine lv_iinc (v := (x5_103 + 1)) (lv' := [(5, .int (x5_103 + 1)), (3, .int 1), (4, .int v_7), (0, .ref (b 0)), (1, .int p1), (2, .int p2)]) hx hb dX2_turns_138 hl (k := 5) rfl rfl (by decide) rfl (fun ls hl => ?_)
          refine lv_goto (tgt := 47) hx hb dX2_turns_141 (by decide) ?_
          exact ih_47 1 v_7 (x5_103 + 1) q_6 _ _ _ hP hD hS (lv_sub hl [3, 4, 5, 1, 2, 0] rfl) h
        · have h := it_r c_8 h
          refine lv_iload_n hx hb dX2_turns_125 rfl (lv_at hl 4 rfl) ?_
          refine lv_aload_n hx hb dX2_turns_126 rfl (lv_at hl 1 rfl) ?_
          refine va_get (D := D) (ci := 2) (v := .int (m_n q_6)) (C := RX2) (T := TX2) (N := 15) hx hb hts w_1 hown hK hP 0 rfl rfl 6 (by decide) w_2 (fun _ h9 => h9) rfl dX2_turns_127 ?_
          refine lv_iconst (v := 1) hx hb dX2_turns_130 (by decide) ?_
          refine lv_iadd hx hb dX2_turns_131 ?_
          have g_9 := nz_l (gb_l h)
          have h := gb_r h
          refine lv_idiv hx hb dX2_turns_132 g_9 ?_
          refine lv_goto (tgt := 137) hx hb dX2_turns_133 (by decide) ?_
          refine lv_topi (fun v_10 ev_10 => ?_)
          have h := nm_l h ev_10
          refine lv_istore_n (lv' := [(3, .int v_10), (4, .int v_7), (0, .ref (b 0)), (1, .int p1), (2, .int p2), (5, .int x5_103)]) hx hb dX2_turns_137 rfl hl (by decide) rfl (fun ls hl => ?_)
          refine lv_iinc (v := (x5_103 + 1)) (lv' := [(5, .int (x5_103 + 1)), (3, .int v_10), (4, .int v_7), (0, .ref (b 0)), (1, .int p1), (2, .int p2)]) hx hb dX2_turns_138 hl (k := 5) rfl rfl (by decide) rfl (fun ls hl => ?_)
          refine lv_goto (tgt := 47) hx hb dX2_turns_141 (by decide) ?_
          exact ih_47 v_10 v_7 (x5_103 + 1) q_6 _ _ _ hP hD hS (lv_sub hl [3, 4, 5, 1, 2, 0] rfl) h
      have hC_87 : ∀ (x3_87 : Int32) (x4_87 : Int32) (x5_87 : Int32) (x6_87 : Int32) (M_87 : MdV) (H : Heap) (locs : List Loc) (ls : Array Slot), va_P D vwCl (mdW k b M_87) H → va_D A (mdW k b M_87) → va_S A s.heap H locs → lv_has ls 7 [(0, .ref (b 0)), (1, .int p1), (2, .int p2), (3, .int x3_87), (4, .int x4_87), (5, .int x5_87), (6, .int x6_87)] → f_X2_turns_87 (f_X2_turns_47 p1 p2 fu_47) x3_87 x4_87 x5_87 x6_87 M_87 = some (o0, o1) → W p l e ({ frames := 5, cells := 0, slots := 0, locals := 118 } : Room) s m args below meth c H locs 0 0 (MQ below (Qk D A (some (.int o0)) (mdW k b o1)) args s 0 0 A) (F0 m 87 ls []) := by
        intro x3_87 x4_87 x5_87 x6_87 M_87 H locs ls hP hD hS hl h
        unfold f_X2_turns_87 at h
        refine lv_iload hx hb dX2_turns_87 (lv_at hl 6 rfl) ?_
        refine lv_if_lt (tgt := 103) hx hb dX2_turns_89 (by decide) (fun c_11 => ?_) (fun c_11 => ?_)
        · have h := it_l c_11 h
          exact hC_103 x3_87 x4_87 x5_87 M_87 _ _ _ hP hD hS (lv_sub hl [0, 1, 2, 3, 4, 5] rfl) h
        · have h := it_r c_11 h
          refine lv_aload_n hx hb dX2_turns_92 rfl (lv_at hl 0 rfl) ?_
          refine va_get (D := D) (ci := 2) (v := .ref (b 4)) (C := RX2) (T := TX2) (N := 15) hx hb hts w_1 hown hK hP 0 rfl rfl 8 (by decide) w_0 (fun _ h9 => h9) rfl dX2_turns_93 ?_
          refine lv_bipush (v := 42) hx hb dX2_turns_96 (by decide) ?_
          refine lv_iload hx hb dX2_turns_98 (lv_at hl 6 rfl) ?_
          refine lv_iadd hx hb dX2_turns_100 ?_
          refine lv_iconst (v := 5) hx hb dX2_turns_101 (by decide) ?_
          have g_12 := inb_vp (gb_l h)
          have h := gb_r h
          refine va_iast hx hb hK hP hD hS 4 0 rfl rfl g_12 dX2_turns_102 (fun H locs hP hD hS => ?_)
          obtain ⟨q_13, eq_13⟩ : ∃ y : MdV, y = mu_tri M_87 (upd (m_tri M_87) (42 + x6_87).toNatClampNeg 5) := ⟨_, rfl⟩
          have hP : va_P D vwCl (mdW k b q_13) H := by rw [eq_13, ← md_set_tri k b M_87 _]; exact hP
          have hD : va_D A (mdW k b q_13) := by rw [eq_13, ← md_set_tri k b M_87 _]; exact hD
          have h := nm_l h eq_13
          exact hC_103 x3_87 x4_87 x5_87 q_13 _ _ _ hP hD hS (lv_sub hl [0, 1, 2, 3, 4, 5] rfl) h
      refine lv_iload hx hb dX2_turns_47 (lv_at hl 5 rfl) ?_
      refine lv_iload_n hx hb dX2_turns_49 rfl (lv_at hl 1 rfl) ?_
      refine lv_icmp_ge (tgt := 144) hx hb dX2_turns_50 (by decide) (fun c_14 => ?_) (fun c_14 => ?_)
      · have h := it_l c_14 h
        refine lv_iload hx hb dX2_turns_144 (lv_at hl 4 rfl) ?_
        cases h
        exact Ck_iret hx hb hr hP hD hS dX2_turns_146 hlocks
      · have h := it_r c_14 h
        refine lv_iload_n hx hb dX2_turns_53 rfl (lv_at hl 2 rfl) ?_
        refine lv_iload_n hx hb dX2_turns_54 rfl (lv_at hl 3 rfl) ?_
        have g_15 := nz_l (gb_l h)
        have h := gb_r h
        refine lv_idiv hx hb dX2_turns_55 g_15 ?_
        refine lv_aload_n hx hb dX2_turns_56 rfl (lv_at hl 0 rfl) ?_
        refine va_get (D := D) (ci := 2) (v := .int (m_n M_47)) (C := RX2) (T := TX2) (N := 15) hx hb hts w_1 hown hK hP 0 rfl rfl 6 (by decide) w_2 (fun _ h9 => h9) rfl dX2_turns_57 ?_
        refine lv_iconst (v := 1) hx hb dX2_turns_60 (by decide) ?_
        refine lv_iadd hx hb dX2_turns_61 ?_
        have g_16 := nz_l (gb_l h)
        have h := gb_r h
        refine lv_irem hx hb dX2_turns_62 g_16 ?_
        refine lv_iconst (v := 1) hx hb dX2_turns_63 (by decide) ?_
        refine lv_isub hx hb dX2_turns_64 ?_
        refine lv_topi (fun v_17 ev_17 => ?_)
        have h := nm_l h ev_17
        refine lv_istore (lv' := [(6, .int v_17), (0, .ref (b 0)), (1, .int p1), (2, .int p2), (3, .int x3_47), (4, .int x4_47), (5, .int x5_47)]) hx hb dX2_turns_65 hl (by decide) rfl (fun ls hl => ?_)
        refine lv_iload hx hb dX2_turns_67 (lv_at hl 0 rfl) ?_
        refine lv_if_lt (tgt := 87) hx hb dX2_turns_69 (by decide) (fun c_18 => ?_) (fun c_18 => ?_)
        · have h := it_l c_18 h
          exact hC_87 x3_47 x4_47 x5_47 v_17 M_47 _ _ _ hP hD hS (lv_sub hl [1, 2, 3, 4, 5, 6, 0] rfl) h
        · have h := it_r c_18 h
          refine lv_aload_n hx hb dX2_turns_72 rfl (lv_at hl 1 rfl) ?_
          refine va_get (D := D) (ci := 2) (v := .ref (b 4)) (C := RX2) (T := TX2) (N := 15) hx hb hts w_1 hown hK hP 0 rfl rfl 8 (by decide) w_0 (fun _ h9 => h9) rfl dX2_turns_73 ?_
          refine lv_iload hx hb dX2_turns_76 (lv_at hl 0 rfl) ?_
          obtain ⟨v_19, hv_20, h⟩ := bd_l h
          refine Ck_S (As := [.ref (b 4), .int v_17]) (rest := []) (wc := [(b 4, .inl (k 0, 64, .inl (m_tri M_47)))]) (wc' := [(b 4, .inl (k 0, 64, .inl (m_tri M_47)))]) (w0' := mdW k b M_47) ⟨hx, hb, hml, hown, hts⟩ (c_X2_works l D k (b 4) (m_tri M_47) v_17 v_19 hv_20) (va_cwS 2 hts gX2_turns_X2_works rfl rfl rfl (by decide +kernel) ⟨Nat.le_of_ble_eq_true rfl, Nat.le_of_ble_eq_true rfl⟩) hK hP hD hS hA [4] rfl (by decide) rfl rfl rfl hl.1 rfl (Nat.le_of_ble_eq_true rfl) dX2_turns_78 ⟨Nat.le_of_ble_eq_true rfl, Nat.le_of_ble_eq_true rfl⟩ (fun H locs hP hD hS => ?_)
          refine W.eq (g2 := F0 m 81 ls [.int v_19]) rfl ?_
          refine lv_if_ne (tgt := 87) hx hb dX2_turns_81 (by decide) (fun c_21 => ?_) (fun c_21 => ?_)
          · have h := it_r c_21 h
            exact hC_87 x3_47 x4_47 x5_47 v_17 M_47 _ _ _ hP hD hS (lv_sub hl [1, 2, 3, 4, 5, 6, 0] rfl) h
          · have h := it_l c_21 h
            refine lv_bipush (v := (-9)) hx hb dX2_turns_84 (by decide) ?_
            cases h
            exact Ck_iret hx hb hr hP hD hS dX2_turns_86 hlocks
  have hC_20 : ∀ (fu_20 : Nat) (x3_20 : Int32) (x4_20 : Int32) (M_20 : MdV) (H : Heap) (locs : List Loc) (ls : Array Slot), va_P D vwCl (mdW k b M_20) H → va_D A (mdW k b M_20) → va_S A s.heap H locs → lv_has ls 7 [(0, .ref (b 0)), (1, .int p1), (2, .int p2), (3, .int x3_20), (4, .int x4_20)] → f_X2_turns_20 p1 p2 fu_20 x3_20 x4_20 M_20 = some (o0, o1) → W p l e ({ frames := 5, cells := 0, slots := 0, locals := 118 } : Room) s m args below meth c H locs 0 0 (MQ below (Qk D A (some (.int o0)) (mdW k b o1)) args s 0 0 A) (F0 m 20 ls []) := by
    intro fu_20
    induction fu_20 with
    | zero => intro x3_20 x4_20 M_20 H locs ls _ _ _ _ h; exact (no_l h).elim
    | succ fu_20 ih_20 =>
      intro x3_20 x4_20 M_20 H locs ls hP hD hS hl h
      rw [f_X2_turns_20] at h
      refine lv_iload hx hb dX2_turns_20 (lv_at hl 4 rfl) ?_
      refine lv_iload_n hx hb dX2_turns_22 rfl (lv_at hl 1 rfl) ?_
      refine lv_icmp_ge (tgt := 41) hx hb dX2_turns_23 (by decide) (fun c_22 => ?_) (fun c_22 => ?_)
      · have h := it_l c_22 h
        refine lv_iconst (v := 0) hx hb dX2_turns_41 (by decide) ?_
        refine lv_istore (lv' := [(4, .int 0), (0, .ref (b 0)), (1, .int p1), (2, .int p2), (3, .int x3_20)]) hx hb dX2_turns_42 hl (by decide) rfl (fun ls hl => ?_)
        refine lv_iconst (v := 0) hx hb dX2_turns_44 (by decide) ?_
        refine lv_istore (lv' := [(5, .int 0), (4, .int 0), (0, .ref (b 0)), (1, .int p1), (2, .int p2), (3, .int x3_20)]) hx hb dX2_turns_45 hl (by decide) rfl (fun ls hl => ?_)
        exact hC_47 2000 x3_20 0 0 M_20 _ _ _ hP hD hS (lv_sub hl [2, 3, 4, 5, 1, 0] rfl) h
      · have h := it_r c_22 h
        refine lv_iload_n hx hb dX2_turns_26 rfl (lv_at hl 3 rfl) ?_
        refine lv_aload_n hx hb dX2_turns_27 rfl (lv_at hl 0 rfl) ?_
        refine va_get (D := D) (ci := 2) (v := .int (m_n M_20)) (C := RX2) (T := TX2) (N := 15) hx hb hts w_1 hown hK hP 0 rfl rfl 6 (by decide) w_2 (fun _ h9 => h9) rfl dX2_turns_28 ?_
        refine lv_iconst (v := 1) hx hb dX2_turns_31 (by decide) ?_
        refine lv_iadd hx hb dX2_turns_32 ?_
        refine lv_imul hx hb dX2_turns_33 ?_
        refine lv_topi (fun v_23 ev_23 => ?_)
        have h := nm_l h ev_23
        refine lv_istore_n (lv' := [(3, .int v_23), (0, .ref (b 0)), (1, .int p1), (2, .int p2), (4, .int x4_20)]) hx hb dX2_turns_34 rfl hl (by decide) rfl (fun ls hl => ?_)
        refine lv_iinc (v := (x4_20 + 1)) (lv' := [(4, .int (x4_20 + 1)), (3, .int v_23), (0, .ref (b 0)), (1, .int p1), (2, .int p2)]) hx hb dX2_turns_35 hl (k := 4) rfl rfl (by decide) rfl (fun ls hl => ?_)
        refine lv_goto (tgt := 20) hx hb dX2_turns_38 (by decide) ?_
        exact ih_20 v_23 (x4_20 + 1) M_20 _ _ _ hP hD hS (lv_sub hl [2, 3, 4, 1, 0] rfl) h
  refine lv_aload_n hx hb dX2_turns_0 rfl (lv_at hl 0 rfl) ?_
  refine va_get (D := D) (ci := 2) (v := .ref (b 3)) (C := RX2) (T := TX2) (N := 15) hx hb hts w_1 hown hK hP 0 rfl rfl 7 (by decide) w_3 (fun _ h9 => h9) rfl dX2_turns_1 ?_
  refine lv_iconst (v := 0) hx hb dX2_turns_4 (by decide) ?_
  refine lv_aload_n hx hb dX2_turns_5 rfl (lv_at hl 0 rfl) ?_
  refine va_get (D := D) (ci := 2) (v := .ref (b 4)) (C := RX2) (T := TX2) (N := 15) hx hb hts w_1 hown hK hP 0 rfl rfl 8 (by decide) w_0 (fun _ h9 => h9) rfl dX2_turns_6 ?_
  refine lv_iconst (v := 0) hx hb dX2_turns_9 (by decide) ?_
  refine lv_bipush (v := 64) hx hb dX2_turns_10 (by decide) ?_
  obtain ⟨q_24, hv_25, h⟩ := bd_l h
  obtain ⟨q_26, eq_26⟩ : ∃ y : MdV, y = mu_tri M q_24 := ⟨_, rfl⟩
  have h := nm_l h eq_26
  refine Ck_S (As := [.ref (b 3), .int 0, .ref (b 4), .int 0, .int 64]) (rest := []) (wc := [(b 3, .inl (k 0, 64, .inl (m_now M)))] ++ [(b 4, .inl (k 0, 64, .inl (m_tri M)))]) (wc' := [(b 3, .inl (k 0, 64, .inl (m_now M)))] ++ [(b 4, .inl (k 0, 64, .inl q_24))]) (w0' := mdW k b q_26) ⟨hx, hb, hml, hown, hts⟩ (c_X2_copy l D k (b 3) (b 4) 64 64 (m_now M) (m_tri M) 0 0 64 q_24 hv_25) (va_cwS 5 hts gX2_turns_X2_copy rfl rfl rfl (by decide +kernel) ⟨Nat.le_of_ble_eq_true rfl, Nat.le_of_ble_eq_true rfl⟩) hK hP hD hS hA [3, 4] rfl (by decide) rfl (by rw [eq_26]; simp only [va_sets, List.cons_append, List.nil_append, md_set_0, md_self_now, md_set_tri]) rfl hl.1 rfl (Nat.le_of_ble_eq_true rfl) dX2_turns_12 ⟨Nat.le_of_ble_eq_true rfl, Nat.le_of_ble_eq_true rfl⟩ (fun H locs hP hD hS => ?_)
  refine W.eq (g2 := F0 m 15 ls []) rfl ?_
  refine lv_iconst (v := 1) hx hb dX2_turns_15 (by decide) ?_
  refine lv_istore_n (lv' := [(3, .int 1), (0, .ref (b 0)), (1, .int p1), (2, .int p2)]) hx hb dX2_turns_16 rfl hl (by decide) rfl (fun ls hl => ?_)
  refine lv_iconst (v := 1) hx hb dX2_turns_17 (by decide) ?_
  refine lv_istore (lv' := [(4, .int 1), (3, .int 1), (0, .ref (b 0)), (1, .int p1), (2, .int p2)]) hx hb dX2_turns_18 hl (by decide) rfl (fun ls hl => ?_)
  exact hC_20 2000 1 1 q_26 _ _ _ hP hD hS (lv_sub hl [2, 3, 4, 1, 0] rfl) h
def f_X2_command (M : MdV) (p1 : Int32) : Option (Int32 × MdV) := nm (p1 / 10000) fun v_1 => nm ((p1 / 1000) - (p1 / 1000) / 10 * 10) fun v_2 => nm ((p1 / 100) - (p1 / 100) / 10 * 10) fun v_3 => nm (p1 - p1 / 100 * 100) fun v_4 => nm (p1 - p1 / 1000 * 1000) fun v_5 => if v_1 = 1 then (if v_2 = 0 then (if v_3 = 0 then (if v_4 = 0 then (some (0, M)) else (bd (f_X2_ticksOn M (m_tri M) (m_flo M) (m_sal M) v_4) fun ⟨v_10, q_11, q_12, q_13⟩ => nm (mu_sal (mu_flo (mu_tri M q_11) q_12) q_13) fun q_15 => some (1, q_15))) else (some (0, M))) else (some (0, M))) else (if v_1 = 2 then (if v_2 = 0 then (nm (mu_tri M (upd (m_tri M) 48 v_5)) fun q_18 => some (1, q_18)) else (some (0, M))) else (if v_1 = 3 then (bd (f_X2_isEffect M v_2) fun v_20 => if v_20 = 0 then (some (0, M)) else (gb (inb (18 + v_2) 64) <| nm (mu_tri M (upd (m_tri M) (18 + v_2).toNatClampNeg v_5)) fun q_24 => some (1, q_24))) else (if v_1 = 4 then (bd (f_X2_isEffect M v_2) fun v_26 => if v_26 = 0 then (some (0, M)) else (if v_3 = 0 then (bd (f_X2_in (v_4.toInt64) 1 20) fun v_30 => if v_30 = 0 then (some (0, M)) else (bd (f_X2_works (m_tri M) v_2) fun v_33 => if v_33 = 0 then (some (0, M)) else (gb (inb (42 + v_2) 64) <| nm (mu_tri M (upd (m_tri M) (42 + v_2).toNatClampNeg v_4)) fun q_37 => some (1, q_37)))) else (some (0, M)))) else (if v_1 = 5 then (bd (f_X2_isEffect M v_2) fun v_39 => if v_39 = 0 then (some (0, M)) else (if v_3 = 0 then (bd (f_X2_thickness (m_tri M) v_2) fun v_43 => if v_43 < v_4 then (some (0, M)) else (some (1, M))) else (some (0, M)))) else (if v_1 = 6 then (bd (f_X2_isEffect M v_2) fun v_47 => if v_47 = 0 then (some (0, M)) else (if v_3 = 0 then (gb (inb (30 + v_2) 64) <| if v_4 < ((m_tri M) (30 + v_2).toNatClampNeg) then (some (0, M)) else (some (1, M))) else (some (0, M)))) else (if v_1 = 7 then (if v_2 = 0 then (if 10 ≤ v_5 then (some (0, M)) else (bd (f_X2_washed M (m_tri M)) fun v_56 => if v_56 = v_5 then (some (1, M)) else (some (0, M)))) else (some (0, M))) else (if v_1 = 8 then (if v_2 = 0 then (if v_5 < ((m_tri M) 54) then (some (0, M)) else (some (1, M))) else (some (0, M))) else (some (0, M)))))))))
set_option maxRecDepth 100000 in
set_option maxHeartbeats 4000000 in
theorem c_X2_command (l : Launch) (D : va_G) (k : Nat → ClassId) (b : Nat → Nat) (M : MdV) (p1 : Int32) (o0 : Int32) (o1 : MdV) (h : f_X2_command M p1 = some (o0, o1)) : Ck l D (tyK k) yX2_command wsX2_command ({ frames := 5, cells := 0, slots := 0, locals := 118 } : Room) [.ref (b 0), .int p1] (mdW k b M) (some (.int o0)) (mdW k b o1) := by
  refine Ck_of (cc := cX2_command) (maxL := 7) (ret := (some .boolean)) (by decide) rfl (Nat.le_of_ble_eq_true rfl) ?_
  intro p e s m args below meth c A ls hx hb hr hml hts hown hlocks hK hA hP hD hS hl
  have hl : lv_has ls 7 [(0, .ref (b 0)), (1, .int p1)] := hl
  have hP : va_P D vwCl (mdW k b M) s.heap := hP
  have w_0 := hts (.fieldLink RX2 19 "EffectTrainModel" "trial" "[I") (by decide +kernel)
  have w_1 : ∀ w ∈ wsX20, w ∈ wsX2_command := by decide +kernel
  have w_2 := hts (.constantLong RX2 149 (20)) (by decide +kernel)
  unfold f_X2_command at h
  refine lv_iload_n hx hb dX2_command_0 rfl (lv_at hl 1 rfl) ?_
  refine lv_sipush (v := 10000) hx hb dX2_command_1 (by decide) ?_
  refine lv_idiv hx hb dX2_command_4 (by decide) ?_
  refine lv_topi (fun v_1 ev_1 => ?_)
  have h := nm_l h ev_1
  refine lv_istore_n (lv' := [(2, .int v_1), (0, .ref (b 0)), (1, .int p1)]) hx hb dX2_command_5 rfl hl (by decide) rfl (fun ls hl => ?_)
  refine lv_iload_n hx hb dX2_command_6 rfl (lv_at hl 2 rfl) ?_
  refine lv_sipush (v := 1000) hx hb dX2_command_7 (by decide) ?_
  refine lv_idiv hx hb dX2_command_10 (by decide) ?_
  refine lv_bipush (v := 10) hx hb dX2_command_11 (by decide) ?_
  refine lv_irem hx hb dX2_command_13 (by decide) ?_
  refine lv_topi (fun v_2 ev_2 => ?_)
  have h := nm_l h ev_2
  refine lv_istore_n (lv' := [(3, .int v_2), (2, .int v_1), (0, .ref (b 0)), (1, .int p1)]) hx hb dX2_command_14 rfl hl (by decide) rfl (fun ls hl => ?_)
  refine lv_iload_n hx hb dX2_command_15 rfl (lv_at hl 3 rfl) ?_
  refine lv_bipush (v := 100) hx hb dX2_command_16 (by decide) ?_
  refine lv_idiv hx hb dX2_command_18 (by decide) ?_
  refine lv_bipush (v := 10) hx hb dX2_command_19 (by decide) ?_
  refine lv_irem hx hb dX2_command_21 (by decide) ?_
  refine lv_topi (fun v_3 ev_3 => ?_)
  have h := nm_l h ev_3
  refine lv_istore (lv' := [(4, .int v_3), (3, .int v_2), (2, .int v_1), (0, .ref (b 0)), (1, .int p1)]) hx hb dX2_command_22 hl (by decide) rfl (fun ls hl => ?_)
  refine lv_iload_n hx hb dX2_command_24 rfl (lv_at hl 4 rfl) ?_
  refine lv_bipush (v := 100) hx hb dX2_command_25 (by decide) ?_
  refine lv_irem hx hb dX2_command_27 (by decide) ?_
  refine lv_topi (fun v_4 ev_4 => ?_)
  have h := nm_l h ev_4
  refine lv_istore (lv' := [(5, .int v_4), (4, .int v_3), (3, .int v_2), (2, .int v_1), (0, .ref (b 0)), (1, .int p1)]) hx hb dX2_command_28 hl (by decide) rfl (fun ls hl => ?_)
  refine lv_iload_n hx hb dX2_command_30 rfl (lv_at hl 5 rfl) ?_
  refine lv_sipush (v := 1000) hx hb dX2_command_31 (by decide) ?_
  refine lv_irem hx hb dX2_command_34 (by decide) ?_
  refine lv_topi (fun v_5 ev_5 => ?_)
  have h := nm_l h ev_5
  refine lv_istore (lv' := [(6, .int v_5), (5, .int v_4), (4, .int v_3), (3, .int v_2), (2, .int v_1), (0, .ref (b 0)), (1, .int p1)]) hx hb dX2_command_35 hl (by decide) rfl (fun ls hl => ?_)
  refine lv_iload_n hx hb dX2_command_37 rfl (lv_at hl 4 rfl) ?_
  by_cases c_6 : v_1 = 1
  · have h := it_l c_6 h
    refine lv_tableIn (tgt := 84) hx hb dX2_command_38 (by rw [c_6]; decide) (by rw [c_6]; decide) (by rw [c_6]; rfl) (by decide) ?_
    refine lv_iload_n hx hb dX2_command_84 rfl (lv_at hl 3 rfl) ?_
    refine lv_if_ne (tgt := 98) hx hb dX2_command_85 (by decide) (fun c_7 => ?_) (fun c_7 => ?_)
    · have h := it_r c_7 h
      refine lv_iconst (v := 0) hx hb dX2_command_98 (by decide) ?_
      cases h
      exact Ck_zret hx hb hr (by decide) hP hD hS dX2_command_99 hlocks
    · have h := it_l c_7 h
      refine lv_iload hx hb dX2_command_88 (lv_at hl 2 rfl) ?_
      refine lv_if_ne (tgt := 98) hx hb dX2_command_90 (by decide) (fun c_8 => ?_) (fun c_8 => ?_)
      · have h := it_r c_8 h
        refine lv_iconst (v := 0) hx hb dX2_command_98 (by decide) ?_
        cases h
        exact Ck_zret hx hb hr (by decide) hP hD hS dX2_command_99 hlocks
      · have h := it_l c_8 h
        refine lv_iload hx hb dX2_command_93 (lv_at hl 1 rfl) ?_
        refine lv_if_ne (tgt := 100) hx hb dX2_command_95 (by decide) (fun c_9 => ?_) (fun c_9 => ?_)
        · have h := it_r c_9 h
          refine lv_aload_n hx hb dX2_command_100 rfl (lv_at hl 5 rfl) ?_
          refine lv_aload_n hx hb dX2_command_101 rfl (lv_at hl 5 rfl) ?_
          refine va_get (D := D) (ci := 2) (v := .ref (b 4)) (C := RX2) (T := TX2) (N := 15) hx hb hts w_1 hown hK hP 0 rfl rfl 8 (by decide) w_0 (fun _ h9 => h9) rfl dX2_command_102 ?_
          refine lv_iload hx hb dX2_command_105 (lv_at hl 1 rfl) ?_
          obtain ⟨⟨v_10, q_11, q_12, q_13⟩, hv_14, h⟩ := bd_l h
          obtain ⟨q_15, eq_15⟩ : ∃ y : MdV, y = mu_sal (mu_flo (mu_tri M q_11) q_12) q_13 := ⟨_, rfl⟩
          have h := nm_l h eq_15
          refine Ck_V (As := [.ref (b 4), .int v_4]) (rest := []) (wc := [mdO b M] ++ [(b 4, .inl (k 0, 64, .inl (m_tri M)))] ++ [(b 8, .inl (k 0, 6, .inl (m_flo M)))] ++ [(b 9, .inl (k 0, 6, .inl (m_sal M)))]) (wc' := [mdO b M] ++ [(b 4, .inl (k 0, 64, .inl q_11))] ++ [(b 8, .inl (k 0, 6, .inl q_12))] ++ [(b 9, .inl (k 0, 6, .inl q_13))]) (w0' := mdW k b q_15) ⟨hx, hb, hml, hown, hts⟩ (c_X2_ticksOn l D k b (b 4) M (m_tri M) (m_flo M) (m_sal M) v_4 v_10 q_11 q_12 q_13 hv_14) (cwV 2 hts gX2_command_X2_ticksOn rfl rfl rfl (by decide +kernel) ⟨Nat.le_of_ble_eq_true rfl, Nat.le_of_ble_eq_true rfl⟩) hK hP hD hS hA (q0 := 0) (ci := 2) rfl rfl [0, 4, 8, 9] rfl (by decide) rfl (by rw [eq_15]; simp only [va_sets, List.cons_append, List.nil_append, md_set_0, md_set_tri, md_set_flo, md_set_sal]) rfl hl.1 rfl (Nat.le_of_ble_eq_true rfl) dX2_command_107 ⟨Nat.le_of_ble_eq_true rfl, Nat.le_of_ble_eq_true rfl⟩ (fun H locs hP hD hS => ?_)
          refine W.eq (g2 := F0 m 110 ls [.int v_10]) rfl ?_
          refine lv_pop hx hb dX2_command_110 rfl ?_
          refine lv_iconst (v := 1) hx hb dX2_command_111 (by decide) ?_
          cases h
          exact Ck_zret hx hb hr (by decide) hP hD hS dX2_command_112 hlocks
        · have h := it_l c_9 h
          refine lv_iconst (v := 0) hx hb dX2_command_98 (by decide) ?_
          cases h
          exact Ck_zret hx hb hr (by decide) hP hD hS dX2_command_99 hlocks
  · have h := it_r c_6 h
    by_cases c_16 : v_1 = 2
    · have h := it_l c_16 h
      refine lv_tableIn (tgt := 113) hx hb dX2_command_38 (by rw [c_16]; decide) (by rw [c_16]; decide) (by rw [c_16]; rfl) (by decide) ?_
      refine lv_iload_n hx hb dX2_command_113 rfl (lv_at hl 3 rfl) ?_
      refine lv_if_eq (tgt := 119) hx hb dX2_command_114 (by decide) (fun c_17 => ?_) (fun c_17 => ?_)
      · have h := it_l c_17 h
        refine lv_aload_n hx hb dX2_command_119 rfl (lv_at hl 5 rfl) ?_
        refine va_get (D := D) (ci := 2) (v := .ref (b 4)) (C := RX2) (T := TX2) (N := 15) hx hb hts w_1 hown hK hP 0 rfl rfl 8 (by decide) w_0 (fun _ h9 => h9) rfl dX2_command_120 ?_
        refine lv_bipush (v := 48) hx hb dX2_command_123 (by decide) ?_
        refine lv_iload hx hb dX2_command_125 (lv_at hl 0 rfl) ?_
        refine va_iast hx hb hK hP hD hS 4 0 rfl rfl (inb_vp (by decide)) dX2_command_127 (fun H locs hP hD hS => ?_)
        obtain ⟨q_18, eq_18⟩ : ∃ y : MdV, y = mu_tri M (upd (m_tri M) 48 v_5) := ⟨_, rfl⟩
        have hP : va_P D vwCl (mdW k b q_18) H := by rw [eq_18, ← md_set_tri k b M _]; exact hP
        have hD : va_D A (mdW k b q_18) := by rw [eq_18, ← md_set_tri k b M _]; exact hD
        have h := nm_l h eq_18
        refine lv_iconst (v := 1) hx hb dX2_command_128 (by decide) ?_
        cases h
        exact Ck_zret hx hb hr (by decide) hP hD hS dX2_command_129 hlocks
      · have h := it_r c_17 h
        refine lv_iconst (v := 0) hx hb dX2_command_117 (by decide) ?_
        cases h
        exact Ck_zret hx hb hr (by decide) hP hD hS dX2_command_118 hlocks
    · have h := it_r c_16 h
      by_cases c_19 : v_1 = 3
      · have h := it_l c_19 h
        refine lv_tableIn (tgt := 130) hx hb dX2_command_38 (by rw [c_19]; decide) (by rw [c_19]; decide) (by rw [c_19]; rfl) (by decide) ?_
        refine lv_aload_n hx hb dX2_command_130 rfl (lv_at hl 5 rfl) ?_
        refine lv_iload_n hx hb dX2_command_131 rfl (lv_at hl 3 rfl) ?_
        obtain ⟨v_20, hv_21, h⟩ := bd_l h
        refine Ck_V (As := [.int v_2]) (rest := []) (wc := [mdO b M]) (wc' := [mdO b M]) (w0' := mdW k b M) ⟨hx, hb, hml, hown, hts⟩ (c_X2_isEffect l D k b M v_2 v_20 hv_21) (cwV 1 hts gX2_command_X2_isEffect rfl rfl rfl (by decide +kernel) ⟨Nat.le_of_ble_eq_true rfl, Nat.le_of_ble_eq_true rfl⟩) hK hP hD hS hA (q0 := 0) (ci := 2) rfl rfl [0] rfl (by decide) rfl rfl rfl hl.1 rfl (Nat.le_of_ble_eq_true rfl) dX2_command_132 ⟨Nat.le_of_ble_eq_true rfl, Nat.le_of_ble_eq_true rfl⟩ (fun H locs hP hD hS => ?_)
        refine W.eq (g2 := F0 m 135 ls [.int v_20]) rfl ?_
        refine lv_if_ne (tgt := 140) hx hb dX2_command_135 (by decide) (fun c_22 => ?_) (fun c_22 => ?_)
        · have h := it_r c_22 h
          refine lv_aload_n hx hb dX2_command_140 rfl (lv_at hl 5 rfl) ?_
          refine va_get (D := D) (ci := 2) (v := .ref (b 4)) (C := RX2) (T := TX2) (N := 15) hx hb hts w_1 hown hK hP 0 rfl rfl 8 (by decide) w_0 (fun _ h9 => h9) rfl dX2_command_141 ?_
          refine lv_bipush (v := 18) hx hb dX2_command_144 (by decide) ?_
          refine lv_iload_n hx hb dX2_command_146 rfl (lv_at hl 3 rfl) ?_
          refine lv_iadd hx hb dX2_command_147 ?_
          refine lv_iload hx hb dX2_command_148 (lv_at hl 0 rfl) ?_
          have g_23 := inb_vp (gb_l h)
          have h := gb_r h
          refine va_iast hx hb hK hP hD hS 4 0 rfl rfl g_23 dX2_command_150 (fun H locs hP hD hS => ?_)
          obtain ⟨q_24, eq_24⟩ : ∃ y : MdV, y = mu_tri M (upd (m_tri M) (18 + v_2).toNatClampNeg v_5) := ⟨_, rfl⟩
          have hP : va_P D vwCl (mdW k b q_24) H := by rw [eq_24, ← md_set_tri k b M _]; exact hP
          have hD : va_D A (mdW k b q_24) := by rw [eq_24, ← md_set_tri k b M _]; exact hD
          have h := nm_l h eq_24
          refine lv_iconst (v := 1) hx hb dX2_command_151 (by decide) ?_
          cases h
          exact Ck_zret hx hb hr (by decide) hP hD hS dX2_command_152 hlocks
        · have h := it_l c_22 h
          refine lv_iconst (v := 0) hx hb dX2_command_138 (by decide) ?_
          cases h
          exact Ck_zret hx hb hr (by decide) hP hD hS dX2_command_139 hlocks
      · have h := it_r c_19 h
        by_cases c_25 : v_1 = 4
        · have h := it_l c_25 h
          refine lv_tableIn (tgt := 153) hx hb dX2_command_38 (by rw [c_25]; decide) (by rw [c_25]; decide) (by rw [c_25]; rfl) (by decide) ?_
          refine lv_aload_n hx hb dX2_command_153 rfl (lv_at hl 5 rfl) ?_
          refine lv_iload_n hx hb dX2_command_154 rfl (lv_at hl 3 rfl) ?_
          obtain ⟨v_26, hv_27, h⟩ := bd_l h
          refine Ck_V (As := [.int v_2]) (rest := []) (wc := [mdO b M]) (wc' := [mdO b M]) (w0' := mdW k b M) ⟨hx, hb, hml, hown, hts⟩ (c_X2_isEffect l D k b M v_2 v_26 hv_27) (cwV 1 hts gX2_command_X2_isEffect rfl rfl rfl (by decide +kernel) ⟨Nat.le_of_ble_eq_true rfl, Nat.le_of_ble_eq_true rfl⟩) hK hP hD hS hA (q0 := 0) (ci := 2) rfl rfl [0] rfl (by decide) rfl rfl rfl hl.1 rfl (Nat.le_of_ble_eq_true rfl) dX2_command_155 ⟨Nat.le_of_ble_eq_true rfl, Nat.le_of_ble_eq_true rfl⟩ (fun H locs hP hD hS => ?_)
          refine W.eq (g2 := F0 m 158 ls [.int v_26]) rfl ?_
          refine lv_if_eq (tgt := 190) hx hb dX2_command_158 (by decide) (fun c_28 => ?_) (fun c_28 => ?_)
          · have h := it_l c_28 h
            refine lv_iconst (v := 0) hx hb dX2_command_190 (by decide) ?_
            cases h
            exact Ck_zret hx hb hr (by decide) hP hD hS dX2_command_191 hlocks
          · have h := it_r c_28 h
            refine lv_iload hx hb dX2_command_161 (lv_at hl 2 rfl) ?_
            refine lv_if_ne (tgt := 190) hx hb dX2_command_163 (by decide) (fun c_29 => ?_) (fun c_29 => ?_)
            · have h := it_r c_29 h
              refine lv_iconst (v := 0) hx hb dX2_command_190 (by decide) ?_
              cases h
              exact Ck_zret hx hb hr (by decide) hP hD hS dX2_command_191 hlocks
            · have h := it_l c_29 h
              refine lv_iload hx hb dX2_command_166 (lv_at hl 1 rfl) ?_
              refine lv_i2l hx hb dX2_command_168 rfl ?_
              refine lv_lconst (v := 1) hx hb dX2_command_169 (by decide) ?_
              refine lv_ldc2 (v := 20) hx hb hown w_2 dX2_command_170 ?_
              obtain ⟨v_30, hv_31, h⟩ := bd_l h
              refine Ck_S (As := [.long (v_4.toInt64), .long 1, .long 20]) (rest := []) (wc := ([] : va_W)) (wc' := ([] : va_W)) (w0' := mdW k b M) ⟨hx, hb, hml, hown, hts⟩ (c_X2_in l D k  (v_4.toInt64) 1 20 v_30 hv_31) (va_cwS 3 hts gX2_command_X2_in rfl rfl rfl (by decide +kernel) ⟨Nat.le_of_ble_eq_true rfl, Nat.le_of_ble_eq_true rfl⟩) hK hP hD hS hA [] rfl (by decide) rfl rfl rfl hl.1 rfl (Nat.le_of_ble_eq_true rfl) dX2_command_173 ⟨Nat.le_of_ble_eq_true rfl, Nat.le_of_ble_eq_true rfl⟩ (fun H locs hP hD hS => ?_)
              refine W.eq (g2 := F0 m 176 ls [.int v_30]) rfl ?_
              refine lv_if_eq (tgt := 190) hx hb dX2_command_176 (by decide) (fun c_32 => ?_) (fun c_32 => ?_)
              · have h := it_l c_32 h
                refine lv_iconst (v := 0) hx hb dX2_command_190 (by decide) ?_
                cases h
                exact Ck_zret hx hb hr (by decide) hP hD hS dX2_command_191 hlocks
              · have h := it_r c_32 h
                refine lv_aload_n hx hb dX2_command_179 rfl (lv_at hl 5 rfl) ?_
                refine va_get (D := D) (ci := 2) (v := .ref (b 4)) (C := RX2) (T := TX2) (N := 15) hx hb hts w_1 hown hK hP 0 rfl rfl 8 (by decide) w_0 (fun _ h9 => h9) rfl dX2_command_180 ?_
                refine lv_iload_n hx hb dX2_command_183 rfl (lv_at hl 3 rfl) ?_
                obtain ⟨v_33, hv_34, h⟩ := bd_l h
                refine Ck_S (As := [.ref (b 4), .int v_2]) (rest := []) (wc := [(b 4, .inl (k 0, 64, .inl (m_tri M)))]) (wc' := [(b 4, .inl (k 0, 64, .inl (m_tri M)))]) (w0' := mdW k b M) ⟨hx, hb, hml, hown, hts⟩ (c_X2_works l D k (b 4) (m_tri M) v_2 v_33 hv_34) (va_cwS 2 hts gX2_command_X2_works rfl rfl rfl (by decide +kernel) ⟨Nat.le_of_ble_eq_true rfl, Nat.le_of_ble_eq_true rfl⟩) hK hP hD hS hA [4] rfl (by decide) rfl rfl rfl hl.1 rfl (Nat.le_of_ble_eq_true rfl) dX2_command_184 ⟨Nat.le_of_ble_eq_true rfl, Nat.le_of_ble_eq_true rfl⟩ (fun H locs hP hD hS => ?_)
                refine W.eq (g2 := F0 m 187 ls [.int v_33]) rfl ?_
                refine lv_if_ne (tgt := 192) hx hb dX2_command_187 (by decide) (fun c_35 => ?_) (fun c_35 => ?_)
                · have h := it_r c_35 h
                  refine lv_aload_n hx hb dX2_command_192 rfl (lv_at hl 5 rfl) ?_
                  refine va_get (D := D) (ci := 2) (v := .ref (b 4)) (C := RX2) (T := TX2) (N := 15) hx hb hts w_1 hown hK hP 0 rfl rfl 8 (by decide) w_0 (fun _ h9 => h9) rfl dX2_command_193 ?_
                  refine lv_bipush (v := 42) hx hb dX2_command_196 (by decide) ?_
                  refine lv_iload_n hx hb dX2_command_198 rfl (lv_at hl 3 rfl) ?_
                  refine lv_iadd hx hb dX2_command_199 ?_
                  refine lv_iload hx hb dX2_command_200 (lv_at hl 1 rfl) ?_
                  have g_36 := inb_vp (gb_l h)
                  have h := gb_r h
                  refine va_iast hx hb hK hP hD hS 4 0 rfl rfl g_36 dX2_command_202 (fun H locs hP hD hS => ?_)
                  obtain ⟨q_37, eq_37⟩ : ∃ y : MdV, y = mu_tri M (upd (m_tri M) (42 + v_2).toNatClampNeg v_4) := ⟨_, rfl⟩
                  have hP : va_P D vwCl (mdW k b q_37) H := by rw [eq_37, ← md_set_tri k b M _]; exact hP
                  have hD : va_D A (mdW k b q_37) := by rw [eq_37, ← md_set_tri k b M _]; exact hD
                  have h := nm_l h eq_37
                  refine lv_iconst (v := 1) hx hb dX2_command_203 (by decide) ?_
                  cases h
                  exact Ck_zret hx hb hr (by decide) hP hD hS dX2_command_204 hlocks
                · have h := it_l c_35 h
                  refine lv_iconst (v := 0) hx hb dX2_command_190 (by decide) ?_
                  cases h
                  exact Ck_zret hx hb hr (by decide) hP hD hS dX2_command_191 hlocks
        · have h := it_r c_25 h
          by_cases c_38 : v_1 = 5
          · have h := it_l c_38 h
            refine lv_tableIn (tgt := 205) hx hb dX2_command_38 (by rw [c_38]; decide) (by rw [c_38]; decide) (by rw [c_38]; rfl) (by decide) ?_
            refine lv_aload_n hx hb dX2_command_205 rfl (lv_at hl 5 rfl) ?_
            refine lv_iload_n hx hb dX2_command_206 rfl (lv_at hl 3 rfl) ?_
            obtain ⟨v_39, hv_40, h⟩ := bd_l h
            refine Ck_V (As := [.int v_2]) (rest := []) (wc := [mdO b M]) (wc' := [mdO b M]) (w0' := mdW k b M) ⟨hx, hb, hml, hown, hts⟩ (c_X2_isEffect l D k b M v_2 v_39 hv_40) (cwV 1 hts gX2_command_X2_isEffect rfl rfl rfl (by decide +kernel) ⟨Nat.le_of_ble_eq_true rfl, Nat.le_of_ble_eq_true rfl⟩) hK hP hD hS hA (q0 := 0) (ci := 2) rfl rfl [0] rfl (by decide) rfl rfl rfl hl.1 rfl (Nat.le_of_ble_eq_true rfl) dX2_command_207 ⟨Nat.le_of_ble_eq_true rfl, Nat.le_of_ble_eq_true rfl⟩ (fun H locs hP hD hS => ?_)
            refine W.eq (g2 := F0 m 210 ls [.int v_39]) rfl ?_
            refine lv_if_eq (tgt := 235) hx hb dX2_command_210 (by decide) (fun c_41 => ?_) (fun c_41 => ?_)
            · have h := it_l c_41 h
              refine lv_iconst (v := 0) hx hb dX2_command_235 (by decide) ?_
              cases h
              exact Ck_zret hx hb hr (by decide) hP hD hS dX2_command_236 hlocks
            · have h := it_r c_41 h
              refine lv_iload hx hb dX2_command_213 (lv_at hl 2 rfl) ?_
              refine lv_if_ne (tgt := 235) hx hb dX2_command_215 (by decide) (fun c_42 => ?_) (fun c_42 => ?_)
              · have h := it_r c_42 h
                refine lv_iconst (v := 0) hx hb dX2_command_235 (by decide) ?_
                cases h
                exact Ck_zret hx hb hr (by decide) hP hD hS dX2_command_236 hlocks
              · have h := it_l c_42 h
                refine lv_aload_n hx hb dX2_command_218 rfl (lv_at hl 5 rfl) ?_
                refine va_get (D := D) (ci := 2) (v := .ref (b 4)) (C := RX2) (T := TX2) (N := 15) hx hb hts w_1 hown hK hP 0 rfl rfl 8 (by decide) w_0 (fun _ h9 => h9) rfl dX2_command_219 ?_
                refine lv_iload_n hx hb dX2_command_222 rfl (lv_at hl 3 rfl) ?_
                obtain ⟨v_43, hv_44, h⟩ := bd_l h
                refine Ck_S (As := [.ref (b 4), .int v_2]) (rest := []) (wc := [(b 4, .inl (k 0, 64, .inl (m_tri M)))]) (wc' := [(b 4, .inl (k 0, 64, .inl (m_tri M)))]) (w0' := mdW k b M) ⟨hx, hb, hml, hown, hts⟩ (c_X2_thickness l D k (b 4) (m_tri M) v_2 v_43 hv_44) (va_cwS 2 hts gX2_command_X2_thickness rfl rfl rfl (by decide +kernel) ⟨Nat.le_of_ble_eq_true rfl, Nat.le_of_ble_eq_true rfl⟩) hK hP hD hS hA [4] rfl (by decide) rfl rfl rfl hl.1 rfl (Nat.le_of_ble_eq_true rfl) dX2_command_223 ⟨Nat.le_of_ble_eq_true rfl, Nat.le_of_ble_eq_true rfl⟩ (fun H locs hP hD hS => ?_)
                refine W.eq (g2 := F0 m 226 ls [.int v_43]) rfl ?_
                refine lv_iload hx hb dX2_command_226 (lv_at hl 1 rfl) ?_
                refine lv_icmp_lt (tgt := 235) hx hb dX2_command_228 (by decide) (fun c_45 => ?_) (fun c_45 => ?_)
                · have h := it_l c_45 h
                  refine lv_iconst (v := 0) hx hb dX2_command_235 (by decide) ?_
                  cases h
                  exact Ck_zret hx hb hr (by decide) hP hD hS dX2_command_236 hlocks
                · have h := it_r c_45 h
                  refine lv_iconst (v := 1) hx hb dX2_command_231 (by decide) ?_
                  refine lv_goto (tgt := 236) hx hb dX2_command_232 (by decide) ?_
                  cases h
                  exact Ck_zret hx hb hr (by decide) hP hD hS dX2_command_236 hlocks
          · have h := it_r c_38 h
            by_cases c_46 : v_1 = 6
            · have h := it_l c_46 h
              refine lv_tableIn (tgt := 237) hx hb dX2_command_38 (by rw [c_46]; decide) (by rw [c_46]; decide) (by rw [c_46]; rfl) (by decide) ?_
              refine lv_aload_n hx hb dX2_command_237 rfl (lv_at hl 5 rfl) ?_
              refine lv_iload_n hx hb dX2_command_238 rfl (lv_at hl 3 rfl) ?_
              obtain ⟨v_47, hv_48, h⟩ := bd_l h
              refine Ck_V (As := [.int v_2]) (rest := []) (wc := [mdO b M]) (wc' := [mdO b M]) (w0' := mdW k b M) ⟨hx, hb, hml, hown, hts⟩ (c_X2_isEffect l D k b M v_2 v_47 hv_48) (cwV 1 hts gX2_command_X2_isEffect rfl rfl rfl (by decide +kernel) ⟨Nat.le_of_ble_eq_true rfl, Nat.le_of_ble_eq_true rfl⟩) hK hP hD hS hA (q0 := 0) (ci := 2) rfl rfl [0] rfl (by decide) rfl rfl rfl hl.1 rfl (Nat.le_of_ble_eq_true rfl) dX2_command_239 ⟨Nat.le_of_ble_eq_true rfl, Nat.le_of_ble_eq_true rfl⟩ (fun H locs hP hD hS => ?_)
              refine W.eq (g2 := F0 m 242 ls [.int v_47]) rfl ?_
              refine lv_if_eq (tgt := 268) hx hb dX2_command_242 (by decide) (fun c_49 => ?_) (fun c_49 => ?_)
              · have h := it_l c_49 h
                refine lv_iconst (v := 0) hx hb dX2_command_268 (by decide) ?_
                cases h
                exact Ck_zret hx hb hr (by decide) hP hD hS dX2_command_269 hlocks
              · have h := it_r c_49 h
                refine lv_iload hx hb dX2_command_245 (lv_at hl 2 rfl) ?_
                refine lv_if_ne (tgt := 268) hx hb dX2_command_247 (by decide) (fun c_50 => ?_) (fun c_50 => ?_)
                · have h := it_r c_50 h
                  refine lv_iconst (v := 0) hx hb dX2_command_268 (by decide) ?_
                  cases h
                  exact Ck_zret hx hb hr (by decide) hP hD hS dX2_command_269 hlocks
                · have h := it_l c_50 h
                  refine lv_aload_n hx hb dX2_command_250 rfl (lv_at hl 5 rfl) ?_
                  refine va_get (D := D) (ci := 2) (v := .ref (b 4)) (C := RX2) (T := TX2) (N := 15) hx hb hts w_1 hown hK hP 0 rfl rfl 8 (by decide) w_0 (fun _ h9 => h9) rfl dX2_command_251 ?_
                  refine lv_bipush (v := 30) hx hb dX2_command_254 (by decide) ?_
                  refine lv_iload_n hx hb dX2_command_256 rfl (lv_at hl 3 rfl) ?_
                  refine lv_iadd hx hb dX2_command_257 ?_
                  have g_51 := inb_vp (gb_l h)
                  have h := gb_r h
                  refine va_iald hx hb hK hP 4 0 rfl rfl g_51 dX2_command_258 ?_
                  refine lv_iload hx hb dX2_command_259 (lv_at hl 1 rfl) ?_
                  refine lv_icmp_gt (tgt := 268) hx hb dX2_command_261 (by decide) (fun c_52 => ?_) (fun c_52 => ?_)
                  · have h := it_l c_52 h
                    refine lv_iconst (v := 0) hx hb dX2_command_268 (by decide) ?_
                    cases h
                    exact Ck_zret hx hb hr (by decide) hP hD hS dX2_command_269 hlocks
                  · have h := it_r c_52 h
                    refine lv_iconst (v := 1) hx hb dX2_command_264 (by decide) ?_
                    refine lv_goto (tgt := 269) hx hb dX2_command_265 (by decide) ?_
                    cases h
                    exact Ck_zret hx hb hr (by decide) hP hD hS dX2_command_269 hlocks
            · have h := it_r c_46 h
              by_cases c_53 : v_1 = 7
              · have h := it_l c_53 h
                refine lv_tableIn (tgt := 270) hx hb dX2_command_38 (by rw [c_53]; decide) (by rw [c_53]; decide) (by rw [c_53]; rfl) (by decide) ?_
                refine lv_iload_n hx hb dX2_command_270 rfl (lv_at hl 3 rfl) ?_
                refine lv_if_ne (tgt := 298) hx hb dX2_command_271 (by decide) (fun c_54 => ?_) (fun c_54 => ?_)
                · have h := it_r c_54 h
                  refine lv_iconst (v := 0) hx hb dX2_command_298 (by decide) ?_
                  cases h
                  exact Ck_zret hx hb hr (by decide) hP hD hS dX2_command_299 hlocks
                · have h := it_l c_54 h
                  refine lv_iload hx hb dX2_command_274 (lv_at hl 0 rfl) ?_
                  refine lv_bipush (v := 10) hx hb dX2_command_276 (by decide) ?_
                  refine lv_icmp_ge (tgt := 298) hx hb dX2_command_278 (by decide) (fun c_55 => ?_) (fun c_55 => ?_)
                  · have h := it_l c_55 h
                    refine lv_iconst (v := 0) hx hb dX2_command_298 (by decide) ?_
                    cases h
                    exact Ck_zret hx hb hr (by decide) hP hD hS dX2_command_299 hlocks
                  · have h := it_r c_55 h
                    refine lv_aload_n hx hb dX2_command_281 rfl (lv_at hl 5 rfl) ?_
                    refine lv_aload_n hx hb dX2_command_282 rfl (lv_at hl 5 rfl) ?_
                    refine va_get (D := D) (ci := 2) (v := .ref (b 4)) (C := RX2) (T := TX2) (N := 15) hx hb hts w_1 hown hK hP 0 rfl rfl 8 (by decide) w_0 (fun _ h9 => h9) rfl dX2_command_283 ?_
                    obtain ⟨v_56, hv_57, h⟩ := bd_l h
                    refine Ck_V (As := [.ref (b 4)]) (rest := []) (wc := [mdO b M] ++ [(b 4, .inl (k 0, 64, .inl (m_tri M)))]) (wc' := [mdO b M] ++ [(b 4, .inl (k 0, 64, .inl (m_tri M)))]) (w0' := mdW k b M) ⟨hx, hb, hml, hown, hts⟩ (c_X2_washed l D k b (b 4) M (m_tri M) v_56 hv_57) (cwV 1 hts gX2_command_X2_washed rfl rfl rfl (by decide +kernel) ⟨Nat.le_of_ble_eq_true rfl, Nat.le_of_ble_eq_true rfl⟩) hK hP hD hS hA (q0 := 0) (ci := 2) rfl rfl [0, 4] rfl (by decide) rfl rfl rfl hl.1 rfl (Nat.le_of_ble_eq_true rfl) dX2_command_286 ⟨Nat.le_of_ble_eq_true rfl, Nat.le_of_ble_eq_true rfl⟩ (fun H locs hP hD hS => ?_)
                    refine W.eq (g2 := F0 m 289 ls [.int v_56]) rfl ?_
                    refine lv_iload hx hb dX2_command_289 (lv_at hl 0 rfl) ?_
                    refine lv_icmp_ne (tgt := 298) hx hb dX2_command_291 (by decide) (fun c_58 => ?_) (fun c_58 => ?_)
                    · have h := it_r c_58 h
                      refine lv_iconst (v := 0) hx hb dX2_command_298 (by decide) ?_
                      cases h
                      exact Ck_zret hx hb hr (by decide) hP hD hS dX2_command_299 hlocks
                    · have h := it_l c_58 h
                      refine lv_iconst (v := 1) hx hb dX2_command_294 (by decide) ?_
                      refine lv_goto (tgt := 299) hx hb dX2_command_295 (by decide) ?_
                      cases h
                      exact Ck_zret hx hb hr (by decide) hP hD hS dX2_command_299 hlocks
              · have h := it_r c_53 h
                by_cases c_59 : v_1 = 8
                · have h := it_l c_59 h
                  refine lv_tableIn (tgt := 300) hx hb dX2_command_38 (by rw [c_59]; decide) (by rw [c_59]; decide) (by rw [c_59]; rfl) (by decide) ?_
                  refine lv_iload_n hx hb dX2_command_300 rfl (lv_at hl 3 rfl) ?_
                  refine lv_if_ne (tgt := 320) hx hb dX2_command_301 (by decide) (fun c_60 => ?_) (fun c_60 => ?_)
                  · have h := it_r c_60 h
                    refine lv_iconst (v := 0) hx hb dX2_command_320 (by decide) ?_
                    cases h
                    exact Ck_zret hx hb hr (by decide) hP hD hS dX2_command_321 hlocks
                  · have h := it_l c_60 h
                    refine lv_aload_n hx hb dX2_command_304 rfl (lv_at hl 5 rfl) ?_
                    refine va_get (D := D) (ci := 2) (v := .ref (b 4)) (C := RX2) (T := TX2) (N := 15) hx hb hts w_1 hown hK hP 0 rfl rfl 8 (by decide) w_0 (fun _ h9 => h9) rfl dX2_command_305 ?_
                    refine lv_bipush (v := 54) hx hb dX2_command_308 (by decide) ?_
                    refine va_iald hx hb hK hP 4 0 rfl rfl (inb_vp (by decide)) dX2_command_310 ?_
                    refine W.eq (g2 := F0 m 311 ls [.int ((m_tri M) 54)]) rfl ?_
                    refine lv_iload hx hb dX2_command_311 (lv_at hl 0 rfl) ?_
                    refine lv_icmp_gt (tgt := 320) hx hb dX2_command_313 (by decide) (fun c_61 => ?_) (fun c_61 => ?_)
                    · have h := it_l c_61 h
                      refine lv_iconst (v := 0) hx hb dX2_command_320 (by decide) ?_
                      cases h
                      exact Ck_zret hx hb hr (by decide) hP hD hS dX2_command_321 hlocks
                    · have h := it_r c_61 h
                      refine lv_iconst (v := 1) hx hb dX2_command_316 (by decide) ?_
                      refine lv_goto (tgt := 321) hx hb dX2_command_317 (by decide) ?_
                      cases h
                      exact Ck_zret hx hb hr (by decide) hP hD hS dX2_command_321 hlocks
                · have h := it_r c_59 h
                  have n_c_6 : ¬ v_1.toInt = 1 := fun z9 => c_6 (Int32.toInt_inj.mp (z9.trans (by decide)))
                  have n_c_16 : ¬ v_1.toInt = 2 := fun z9 => c_16 (Int32.toInt_inj.mp (z9.trans (by decide)))
                  have n_c_19 : ¬ v_1.toInt = 3 := fun z9 => c_19 (Int32.toInt_inj.mp (z9.trans (by decide)))
                  have n_c_25 : ¬ v_1.toInt = 4 := fun z9 => c_25 (Int32.toInt_inj.mp (z9.trans (by decide)))
                  have n_c_38 : ¬ v_1.toInt = 5 := fun z9 => c_38 (Int32.toInt_inj.mp (z9.trans (by decide)))
                  have n_c_46 : ¬ v_1.toInt = 6 := fun z9 => c_46 (Int32.toInt_inj.mp (z9.trans (by decide)))
                  have n_c_53 : ¬ v_1.toInt = 7 := fun z9 => c_53 (Int32.toInt_inj.mp (z9.trans (by decide)))
                  have n_c_59 : ¬ v_1.toInt = 8 := fun z9 => c_59 (Int32.toInt_inj.mp (z9.trans (by decide)))
                  refine lv_tableOut (tgt := 322) hx hb dX2_command_38 (by omega) (by decide) ?_
                  refine lv_iconst (v := 0) hx hb dX2_command_322 (by decide) ?_
                  cases h
                  exact Ck_zret hx hb hr (by decide) hP hD hS dX2_command_323 hlocks
def f_X2_append_31 (M : MdV) (p1 : Int32) (t0_31 : Int32) : Option (Int32 × MdV) := bd (f_X2_refused M t0_31) fun ⟨v_1, q_2⟩ => if v_1 = 0 then (gb (inb (m_scs q_2) 120) <| nm (mu_scr q_2 (upd (m_scr q_2) (m_scs q_2).toNatClampNeg p1)) fun q_6 => nm ((m_scs q_6) + 1) fun v_7 => nm (mu_scs q_6 v_7) fun q_8 => some ((m_scs q_8), q_8)) else (some (0, q_2))
def f_X2_append (M : MdV) (p1 : Int32) : Option (Int32 × MdV) := bd (f_X2_in (p1.toInt64) 0 255) fun v_9 => if v_9 = 0 then (f_X2_append_31 M p1 1) else (if (m_scs M) = 120 then (f_X2_append_31 M p1 2) else (f_X2_append_31 M p1 0))
set_option maxRecDepth 100000 in
set_option maxHeartbeats 4000000 in
theorem c_X2_append (l : Launch) (D : va_G) (k : Nat → ClassId) (b : Nat → Nat) (M : MdV) (p1 : Int32) (o0 : Int32) (o1 : MdV) (h : f_X2_append M p1 = some (o0, o1)) : Ck l D (tyK k) yX2_append wsX2_append ({ frames := 1, cells := 0, slots := 0, locals := 25 } : Room) [.ref (b 0), .int p1] (mdW k b M) (some (.int o0)) (mdW k b o1) := by
  refine Ck_of (cc := cX2_append) (maxL := 2) (ret := (some .int)) (by decide) rfl (Nat.le_of_ble_eq_true rfl) ?_
  intro p e s m args below meth c A ls hx hb hr hml hts hown hlocks hK hA hP hD hS hl
  have hl : lv_has ls 2 [(0, .ref (b 0)), (1, .int p1)] := hl
  have hP : va_P D vwCl (mdW k b M) s.heap := hP
  have w_0 := hts (.fieldLink RX2 7 "EffectTrainModel" "script" "[I") (by decide +kernel)
  have w_1 : ∀ w ∈ wsX20, w ∈ wsX2_append := by decide +kernel
  have w_2 := hts (.fieldLink RX2 95 "EffectTrainModel" "scriptSize" "I") (by decide +kernel)
  have w_3 := hts (.constantLong RX2 93 (255)) (by decide +kernel)
  unfold f_X2_append at h
  have hC_31 : ∀ (t0_31 : Int32) (H : Heap) (locs : List Loc) (ls : Array Slot), va_P D vwCl (mdW k b M) H → va_D A (mdW k b M) → va_S A s.heap H locs → lv_has ls 2 [(0, .ref (b 0)), (1, .int p1)] → f_X2_append_31 M p1 t0_31 = some (o0, o1) → W p l e ({ frames := 1, cells := 0, slots := 0, locals := 25 } : Room) s m args below meth c H locs 0 0 (MQ below (Qk D A (some (.int o0)) (mdW k b o1)) args s 0 0 A) (F0 m 31 ls [.int t0_31, .ref (b 0)]) := by
    intro t0_31 H locs ls hP hD hS hl h
    unfold f_X2_append_31 at h
    obtain ⟨⟨v_1, q_2⟩, hv_3, h⟩ := bd_l h
    refine Ck_V (As := [.int t0_31]) (rest := []) (wc := mdW k b M) (wc' := mdW k b q_2) (w0' := mdW k b q_2) ⟨hx, hb, hml, hown, hts⟩ (c_X2_refused l D k b M t0_31 v_1 q_2 hv_3) (cwV 1 hts gX2_append_X2_refused rfl rfl rfl (by decide +kernel) ⟨Nat.le_of_ble_eq_true rfl, Nat.le_of_ble_eq_true rfl⟩) hK hP hD hS hA (q0 := 0) (ci := 2) rfl rfl [0, 1, 2, 3, 4, 5, 6, 7, 8, 9] rfl (by decide) rfl rfl rfl hl.1 rfl (Nat.le_of_ble_eq_true rfl) dX2_append_31 ⟨Nat.le_of_ble_eq_true rfl, Nat.le_of_ble_eq_true rfl⟩ (fun H locs hP hD hS => ?_)
    refine W.eq (g2 := F0 m 34 ls [.int v_1]) rfl ?_
    refine lv_if_eq (tgt := 39) hx hb dX2_append_34 (by decide) (fun c_4 => ?_) (fun c_4 => ?_)
    · have h := it_l c_4 h
      refine lv_aload_n hx hb dX2_append_39 rfl (lv_at hl 0 rfl) ?_
      refine va_get (D := D) (ci := 2) (v := .ref (b 1)) (C := RX2) (T := TX2) (N := 15) hx hb hts w_1 hown hK hP 0 rfl rfl 1 (by decide) w_0 (fun _ h9 => h9) rfl dX2_append_40 ?_
      refine lv_aload_n hx hb dX2_append_43 rfl (lv_at hl 0 rfl) ?_
      refine va_get (D := D) (ci := 2) (v := .int (m_scs q_2)) (C := RX2) (T := TX2) (N := 15) hx hb hts w_1 hown hK hP 0 rfl rfl 2 (by decide) w_2 (fun _ h9 => h9) rfl dX2_append_44 ?_
      refine lv_iload_n hx hb dX2_append_47 rfl (lv_at hl 1 rfl) ?_
      have g_5 := inb_vp (gb_l h)
      have h := gb_r h
      refine va_iast hx hb hK hP hD hS 1 0 rfl rfl g_5 dX2_append_48 (fun H locs hP hD hS => ?_)
      obtain ⟨q_6, eq_6⟩ : ∃ y : MdV, y = mu_scr q_2 (upd (m_scr q_2) (m_scs q_2).toNatClampNeg p1) := ⟨_, rfl⟩
      have hP : va_P D vwCl (mdW k b q_6) H := by rw [eq_6, ← md_set_scr k b q_2 _]; exact hP
      have hD : va_D A (mdW k b q_6) := by rw [eq_6, ← md_set_scr k b q_2 _]; exact hD
      have h := nm_l h eq_6
      refine lv_aload_n hx hb dX2_append_49 rfl (lv_at hl 0 rfl) ?_
      refine lv_dup hx hb dX2_append_50 rfl ?_
      refine va_get (D := D) (ci := 2) (v := .int (m_scs q_6)) (C := RX2) (T := TX2) (N := 15) hx hb hts w_1 hown hK hP 0 rfl rfl 2 (by decide) w_2 (fun _ h9 => h9) rfl dX2_append_51 ?_
      refine lv_iconst (v := 1) hx hb dX2_append_54 (by decide) ?_
      refine lv_iadd hx hb dX2_append_55 ?_
      refine lv_topi (fun v_7 ev_7 => ?_)
      have h := nm_l h ev_7
      refine va_put (D := D) (ci := 2) (v := .int v_7) (ty := .int) (C := RX2) (T := TX2) (N := 15) hx hb hts w_1 tyX2 tyX2_ok nmX2 hown hK hP hD hS 0 rfl rfl 2 (by decide) w_2 (fun _ h9 => h9) rfl (by decide +kernel) rfl rfl (Nat.le_of_ble_eq_true rfl) dX2_append_56 (fun H locs hP hD hS => ?_)
      obtain ⟨q_8, eq_8⟩ : ∃ y : MdV, y = mu_scs q_6 v_7 := ⟨_, rfl⟩
      have hP : va_P D vwCl (mdW k b q_8) H := by rw [eq_8, ← md_set_scs k b q_6 _]; exact hP
      have hD : va_D A (mdW k b q_8) := by rw [eq_8, ← md_set_scs k b q_6 _]; exact hD
      have h := nm_l h eq_8
      refine lv_aload_n hx hb dX2_append_59 rfl (lv_at hl 0 rfl) ?_
      refine va_get (D := D) (ci := 2) (v := .int (m_scs q_8)) (C := RX2) (T := TX2) (N := 15) hx hb hts w_1 hown hK hP 0 rfl rfl 2 (by decide) w_2 (fun _ h9 => h9) rfl dX2_append_60 ?_
      cases h
      exact Ck_iret hx hb hr hP hD hS dX2_append_63 hlocks
    · have h := it_r c_4 h
      refine lv_iconst (v := 0) hx hb dX2_append_37 (by decide) ?_
      cases h
      exact Ck_iret hx hb hr hP hD hS dX2_append_38 hlocks
  refine lv_aload_n hx hb dX2_append_0 rfl (lv_at hl 0 rfl) ?_
  refine lv_iload_n hx hb dX2_append_1 rfl (lv_at hl 1 rfl) ?_
  refine lv_i2l hx hb dX2_append_2 rfl ?_
  refine lv_lconst (v := 0) hx hb dX2_append_3 (by decide) ?_
  refine lv_ldc2 (v := 255) hx hb hown w_3 dX2_append_4 ?_
  obtain ⟨v_9, hv_10, h⟩ := bd_l h
  refine Ck_S (As := [.long (p1.toInt64), .long 0, .long 255]) (rest := [.ref (b 0)]) (wc := ([] : va_W)) (wc' := ([] : va_W)) (w0' := mdW k b M) ⟨hx, hb, hml, hown, hts⟩ (c_X2_in l D k  (p1.toInt64) 0 255 v_9 hv_10) (va_cwS 3 hts gX2_append_X2_in rfl rfl rfl (by decide +kernel) ⟨Nat.le_of_ble_eq_true rfl, Nat.le_of_ble_eq_true rfl⟩) hK hP hD hS hA [] rfl (by decide) rfl rfl rfl hl.1 rfl (Nat.le_of_ble_eq_true rfl) dX2_append_7 ⟨Nat.le_of_ble_eq_true rfl, Nat.le_of_ble_eq_true rfl⟩ (fun H locs hP hD hS => ?_)
  refine W.eq (g2 := F0 m 10 ls [.int v_9, .ref (b 0)]) rfl ?_
  refine lv_if_ne (tgt := 17) hx hb dX2_append_10 (by decide) (fun c_11 => ?_) (fun c_11 => ?_)
  · have h := it_r c_11 h
    refine lv_aload_n hx hb dX2_append_17 rfl (lv_at hl 0 rfl) ?_
    refine va_get (D := D) (ci := 2) (v := .int (m_scs M)) (C := RX2) (T := TX2) (N := 15) hx hb hts w_1 hown hK hP 0 rfl rfl 2 (by decide) w_2 (fun _ h9 => h9) rfl dX2_append_18 ?_
    refine lv_bipush (v := 120) hx hb dX2_append_21 (by decide) ?_
    refine lv_icmp_ne (tgt := 30) hx hb dX2_append_23 (by decide) (fun c_12 => ?_) (fun c_12 => ?_)
    · have h := it_r c_12 h
      refine lv_iconst (v := 0) hx hb dX2_append_30 (by decide) ?_
      exact hC_31 0 _ _ _ hP hD hS (lv_sub hl [0, 1] rfl) h
    · have h := it_l c_12 h
      refine lv_iconst (v := 2) hx hb dX2_append_26 (by decide) ?_
      refine lv_goto (tgt := 31) hx hb dX2_append_27 (by decide) ?_
      exact hC_31 2 _ _ _ hP hD hS (lv_sub hl [0, 1] rfl) h
  · have h := it_l c_11 h
    refine lv_iconst (v := 1) hx hb dX2_append_13 (by decide) ?_
    refine lv_goto (tgt := 31) hx hb dX2_append_14 (by decide) ?_
    exact hC_31 1 _ _ _ hP hD hS (lv_sub hl [0, 1] rfl) h
def f_X2_clearText (M : MdV) : Option (Int32 × MdV) := nm (mu_ref M 0) fun q_1 => nm (m_scs q_1) fun v_2 => nm (mu_scs q_1 0) fun q_3 => some (v_2, q_3)
set_option maxRecDepth 100000 in
set_option maxHeartbeats 4000000 in
theorem c_X2_clearText (l : Launch) (D : va_G) (k : Nat → ClassId) (b : Nat → Nat) (M : MdV) (o0 : Int32) (o1 : MdV) (h : f_X2_clearText M = some (o0, o1)) : Ck l D (tyK k) yX2_clearText wsX2_clearText ({ frames := 0, cells := 0, slots := 0, locals := 0 } : Room) [.ref (b 0)] (mdW k b M) (some (.int o0)) (mdW k b o1) := by
  refine Ck_of (cc := cX2_clearText) (maxL := 2) (ret := (some .int)) (by decide) rfl (Nat.le_of_ble_eq_true rfl) ?_
  intro p e s m args below meth c A ls hx hb hr hml hts hown hlocks hK hA hP hD hS hl
  have hl : lv_has ls 2 [(0, .ref (b 0))] := hl
  have hP : va_P D vwCl (mdW k b M) s.heap := hP
  have w_0 := hts (.fieldLink RX2 42 "EffectTrainModel" "refusal" "I") (by decide +kernel)
  have w_1 : ∀ w ∈ wsX20, w ∈ wsX2_clearText := by decide +kernel
  have w_2 := hts (.fieldLink RX2 95 "EffectTrainModel" "scriptSize" "I") (by decide +kernel)
  unfold f_X2_clearText at h
  refine lv_aload_n hx hb dX2_clearText_0 rfl (lv_at hl 0 rfl) ?_
  refine lv_iconst (v := 0) hx hb dX2_clearText_1 (by decide) ?_
  refine va_put (D := D) (ci := 2) (v := .int 0) (ty := .int) (C := RX2) (T := TX2) (N := 15) hx hb hts w_1 tyX2 tyX2_ok nmX2 hown hK hP hD hS 0 rfl rfl 0 (by decide) w_0 (fun _ h9 => h9) rfl (by decide +kernel) rfl rfl (Nat.le_of_ble_eq_true rfl) dX2_clearText_2 (fun H locs hP hD hS => ?_)
  obtain ⟨q_1, eq_1⟩ : ∃ y : MdV, y = mu_ref M 0 := ⟨_, rfl⟩
  have hP : va_P D vwCl (mdW k b q_1) H := by rw [eq_1, ← md_set_ref k b M _]; exact hP
  have hD : va_D A (mdW k b q_1) := by rw [eq_1, ← md_set_ref k b M _]; exact hD
  have h := nm_l h eq_1
  refine lv_aload_n hx hb dX2_clearText_5 rfl (lv_at hl 0 rfl) ?_
  refine va_get (D := D) (ci := 2) (v := .int (m_scs q_1)) (C := RX2) (T := TX2) (N := 15) hx hb hts w_1 hown hK hP 0 rfl rfl 2 (by decide) w_2 (fun _ h9 => h9) rfl dX2_clearText_6 ?_
  refine lv_topi (fun v_2 ev_2 => ?_)
  have h := nm_l h ev_2
  refine lv_istore_n (lv' := [(1, .int v_2), (0, .ref (b 0))]) hx hb dX2_clearText_9 rfl hl (by decide) rfl (fun ls hl => ?_)
  refine lv_aload_n hx hb dX2_clearText_10 rfl (lv_at hl 1 rfl) ?_
  refine lv_iconst (v := 0) hx hb dX2_clearText_11 (by decide) ?_
  refine va_put (D := D) (ci := 2) (v := .int 0) (ty := .int) (C := RX2) (T := TX2) (N := 15) hx hb hts w_1 tyX2 tyX2_ok nmX2 hown hK hP hD hS 0 rfl rfl 2 (by decide) w_2 (fun _ h9 => h9) rfl (by decide +kernel) rfl rfl (Nat.le_of_ble_eq_true rfl) dX2_clearText_12 (fun H locs hP hD hS => ?_)
  obtain ⟨q_3, eq_3⟩ : ∃ y : MdV, y = mu_scs q_1 0 := ⟨_, rfl⟩
  have hP : va_P D vwCl (mdW k b q_3) H := by rw [eq_3, ← md_set_scs k b q_1 _]; exact hP
  have hD : va_D A (mdW k b q_3) := by rw [eq_3, ← md_set_scs k b q_1 _]; exact hD
  have h := nm_l h eq_3
  refine lv_iload_n hx hb dX2_clearText_15 rfl (lv_at hl 0 rfl) ?_
  cases h
  exact Ck_iret hx hb hr hP hD hS dX2_clearText_16 hlocks
def f_X2_errorPosition (M : MdV) : Option (Int32 × MdV) := nm (mu_ref M 0) fun q_1 => bd (f_X2_readText q_1) fun ⟨v_2, q_3⟩ => some (v_2, q_3)
set_option maxRecDepth 100000 in
set_option maxHeartbeats 4000000 in
theorem c_X2_errorPosition (l : Launch) (D : va_G) (k : Nat → ClassId) (b : Nat → Nat) (M : MdV) (o0 : Int32) (o1 : MdV) (h : f_X2_errorPosition M = some (o0, o1)) : Ck l D (tyK k) yX2_errorPosition wsX2_errorPosition ({ frames := 4, cells := 0, slots := 0, locals := 98 } : Room) [.ref (b 0)] (mdW k b M) (some (.int o0)) (mdW k b o1) := by
  refine Ck_of (cc := cX2_errorPosition) (maxL := 1) (ret := (some .int)) (by decide) rfl (Nat.le_of_ble_eq_true rfl) ?_
  intro p e s m args below meth c A ls hx hb hr hml hts hown hlocks hK hA hP hD hS hl
  have hl : lv_has ls 1 [(0, .ref (b 0))] := hl
  have hP : va_P D vwCl (mdW k b M) s.heap := hP
  have w_0 := hts (.fieldLink RX2 42 "EffectTrainModel" "refusal" "I") (by decide +kernel)
  have w_1 : ∀ w ∈ wsX20, w ∈ wsX2_errorPosition := by decide +kernel
  unfold f_X2_errorPosition at h
  refine lv_aload_n hx hb dX2_errorPosition_0 rfl (lv_at hl 0 rfl) ?_
  refine lv_iconst (v := 0) hx hb dX2_errorPosition_1 (by decide) ?_
  refine va_put (D := D) (ci := 2) (v := .int 0) (ty := .int) (C := RX2) (T := TX2) (N := 15) hx hb hts w_1 tyX2 tyX2_ok nmX2 hown hK hP hD hS 0 rfl rfl 0 (by decide) w_0 (fun _ h9 => h9) rfl (by decide +kernel) rfl rfl (Nat.le_of_ble_eq_true rfl) dX2_errorPosition_2 (fun H locs hP hD hS => ?_)
  obtain ⟨q_1, eq_1⟩ : ∃ y : MdV, y = mu_ref M 0 := ⟨_, rfl⟩
  have hP : va_P D vwCl (mdW k b q_1) H := by rw [eq_1, ← md_set_ref k b M _]; exact hP
  have hD : va_D A (mdW k b q_1) := by rw [eq_1, ← md_set_ref k b M _]; exact hD
  have h := nm_l h eq_1
  refine lv_aload_n hx hb dX2_errorPosition_5 rfl (lv_at hl 0 rfl) ?_
  obtain ⟨⟨v_2, q_3⟩, hv_4, h⟩ := bd_l h
  refine Ck_V (As := []) (rest := []) (wc := mdW k b q_1) (wc' := mdW k b q_3) (w0' := mdW k b q_3) ⟨hx, hb, hml, hown, hts⟩ (c_X2_readText l D k b q_1 v_2 q_3 hv_4) (cwV 0 hts gX2_errorPosition_X2_readText rfl rfl rfl (by decide +kernel) ⟨Nat.le_of_ble_eq_true rfl, Nat.le_of_ble_eq_true rfl⟩) hK hP hD hS hA (q0 := 0) (ci := 2) rfl rfl [0, 1, 2, 3, 4, 5, 6, 7, 8, 9] rfl (by decide) rfl rfl rfl hl.1 rfl (Nat.le_of_ble_eq_true rfl) dX2_errorPosition_6 ⟨Nat.le_of_ble_eq_true rfl, Nat.le_of_ble_eq_true rfl⟩ (fun H locs hP hD hS => ?_)
  refine W.eq (g2 := F0 m 9 ls [.int v_2]) rfl ?_
  cases h
  exact Ck_iret hx hb hr hP hD hS dX2_errorPosition_9 hlocks
def f_X2_load_15 (t0_15 : Int32) (M_15 : MdV) : Option (Int32 × MdV) := bd (f_X2_refused M_15 t0_15) fun ⟨v_1, q_2⟩ => if v_1 = 0 then (nm (m_rdn q_2) fun v_5 => nm (mu_n q_2 v_5) fun q_6 => bd (f_X2_copy 64 64 (m_rrw q_6) (m_now q_6) 0 0 64) fun q_7 => nm (mu_now q_6 q_7) fun q_9 => nm (mu_act q_9 0) fun q_10 => nm (mu_isk q_10 (upd (m_isk q_10) 0 (vp_nar .boolean 0))) fun q_11 => nm (mu_isk q_11 (upd (m_isk q_11) 1 (vp_nar .boolean 0))) fun q_12 => bd (f_X2_sumOf q_12 (m_now q_12) 6) fun v_13 => bd (f_X2_sumOf q_12 (m_now q_12) 12) fun v_15 => some ((v_13 + v_15), q_12)) else (some (0, q_2))
def f_X2_load (M : MdV) : Option (Int32 × MdV) := bd (f_X2_readText M) fun ⟨v_17, q_18⟩ => if v_17 = (-9) then (f_X2_load_15 0 q_18) else (f_X2_load_15 1 q_18)
set_option maxRecDepth 100000 in
set_option maxHeartbeats 4000000 in
theorem c_X2_load (l : Launch) (D : va_G) (k : Nat → ClassId) (b : Nat → Nat) (M : MdV) (o0 : Int32) (o1 : MdV) (h : f_X2_load M = some (o0, o1)) : Ck l D (tyK k) yX2_load wsX2_load ({ frames := 4, cells := 0, slots := 0, locals := 98 } : Room) [.ref (b 0)] (mdW k b M) (some (.int o0)) (mdW k b o1) := by
  refine Ck_of (cc := cX2_load) (maxL := 1) (ret := (some .int)) (by decide) rfl (Nat.le_of_ble_eq_true rfl) ?_
  intro p e s m args below meth c A ls hx hb hr hml hts hown hlocks hK hA hP hD hS hl
  have hl : lv_has ls 1 [(0, .ref (b 0))] := hl
  have hP : va_P D vwCl (mdW k b M) s.heap := hP
  have w_0 := hts (.fieldLink RX2 115 "EffectTrainModel" "readN" "I") (by decide +kernel)
  have w_1 : ∀ w ∈ wsX20, w ∈ wsX2_load := by decide +kernel
  have w_2 := hts (.fieldLink RX2 38 "EffectTrainModel" "n" "I") (by decide +kernel)
  have w_3 := hts (.fieldLink RX2 13 "EffectTrainModel" "readRow" "[I") (by decide +kernel)
  have w_4 := hts (.fieldLink RX2 16 "EffectTrainModel" "now" "[I") (by decide +kernel)
  have w_5 := hts (.fieldLink RX2 47 "EffectTrainModel" "acts" "I") (by decide +kernel)
  have w_6 := hts (.fieldLink RX2 28 "EffectTrainModel" "isKept" "[Z") (by decide +kernel)
  unfold f_X2_load at h
  have hC_15 : ∀ (t0_15 : Int32) (M_15 : MdV) (H : Heap) (locs : List Loc) (ls : Array Slot), va_P D vwCl (mdW k b M_15) H → va_D A (mdW k b M_15) → va_S A s.heap H locs → lv_has ls 1 [(0, .ref (b 0))] → f_X2_load_15 t0_15 M_15 = some (o0, o1) → W p l e ({ frames := 4, cells := 0, slots := 0, locals := 98 } : Room) s m args below meth c H locs 0 0 (MQ below (Qk D A (some (.int o0)) (mdW k b o1)) args s 0 0 A) (F0 m 15 ls [.int t0_15, .ref (b 0)]) := by
    intro t0_15 M_15 H locs ls hP hD hS hl h
    unfold f_X2_load_15 at h
    obtain ⟨⟨v_1, q_2⟩, hv_3, h⟩ := bd_l h
    refine Ck_V (As := [.int t0_15]) (rest := []) (wc := mdW k b M_15) (wc' := mdW k b q_2) (w0' := mdW k b q_2) ⟨hx, hb, hml, hown, hts⟩ (c_X2_refused l D k b M_15 t0_15 v_1 q_2 hv_3) (cwV 1 hts gX2_load_X2_refused rfl rfl rfl (by decide +kernel) ⟨Nat.le_of_ble_eq_true rfl, Nat.le_of_ble_eq_true rfl⟩) hK hP hD hS hA (q0 := 0) (ci := 2) rfl rfl [0, 1, 2, 3, 4, 5, 6, 7, 8, 9] rfl (by decide) rfl rfl rfl hl.1 rfl (Nat.le_of_ble_eq_true rfl) dX2_load_15 ⟨Nat.le_of_ble_eq_true rfl, Nat.le_of_ble_eq_true rfl⟩ (fun H locs hP hD hS => ?_)
    refine W.eq (g2 := F0 m 18 ls [.int v_1]) rfl ?_
    refine lv_if_eq (tgt := 23) hx hb dX2_load_18 (by decide) (fun c_4 => ?_) (fun c_4 => ?_)
    · have h := it_l c_4 h
      refine lv_aload_n hx hb dX2_load_23 rfl (lv_at hl 0 rfl) ?_
      refine lv_aload_n hx hb dX2_load_24 rfl (lv_at hl 0 rfl) ?_
      refine va_get (D := D) (ci := 2) (v := .int (m_rdn q_2)) (C := RX2) (T := TX2) (N := 15) hx hb hts w_1 hown hK hP 0 rfl rfl 4 (by decide) w_0 (fun _ h9 => h9) rfl dX2_load_25 ?_
      refine lv_topi (fun v_5 ev_5 => ?_)
      have h := nm_l h ev_5
      refine va_put (D := D) (ci := 2) (v := .int v_5) (ty := .int) (C := RX2) (T := TX2) (N := 15) hx hb hts w_1 tyX2 tyX2_ok nmX2 hown hK hP hD hS 0 rfl rfl 6 (by decide) w_2 (fun _ h9 => h9) rfl (by decide +kernel) rfl rfl (Nat.le_of_ble_eq_true rfl) dX2_load_28 (fun H locs hP hD hS => ?_)
      obtain ⟨q_6, eq_6⟩ : ∃ y : MdV, y = mu_n q_2 v_5 := ⟨_, rfl⟩
      have hP : va_P D vwCl (mdW k b q_6) H := by rw [eq_6, ← md_set_n k b q_2 _]; exact hP
      have hD : va_D A (mdW k b q_6) := by rw [eq_6, ← md_set_n k b q_2 _]; exact hD
      have h := nm_l h eq_6
      refine lv_aload_n hx hb dX2_load_31 rfl (lv_at hl 0 rfl) ?_
      refine va_get (D := D) (ci := 2) (v := .ref (b 2)) (C := RX2) (T := TX2) (N := 15) hx hb hts w_1 hown hK hP 0 rfl rfl 5 (by decide) w_3 (fun _ h9 => h9) rfl dX2_load_32 ?_
      refine lv_iconst (v := 0) hx hb dX2_load_35 (by decide) ?_
      refine lv_aload_n hx hb dX2_load_36 rfl (lv_at hl 0 rfl) ?_
      refine va_get (D := D) (ci := 2) (v := .ref (b 3)) (C := RX2) (T := TX2) (N := 15) hx hb hts w_1 hown hK hP 0 rfl rfl 7 (by decide) w_4 (fun _ h9 => h9) rfl dX2_load_37 ?_
      refine lv_iconst (v := 0) hx hb dX2_load_40 (by decide) ?_
      refine lv_bipush (v := 64) hx hb dX2_load_41 (by decide) ?_
      obtain ⟨q_7, hv_8, h⟩ := bd_l h
      obtain ⟨q_9, eq_9⟩ : ∃ y : MdV, y = mu_now q_6 q_7 := ⟨_, rfl⟩
      have h := nm_l h eq_9
      refine Ck_S (As := [.ref (b 2), .int 0, .ref (b 3), .int 0, .int 64]) (rest := []) (wc := [(b 2, .inl (k 0, 64, .inl (m_rrw q_6)))] ++ [(b 3, .inl (k 0, 64, .inl (m_now q_6)))]) (wc' := [(b 2, .inl (k 0, 64, .inl (m_rrw q_6)))] ++ [(b 3, .inl (k 0, 64, .inl q_7))]) (w0' := mdW k b q_9) ⟨hx, hb, hml, hown, hts⟩ (c_X2_copy l D k (b 2) (b 3) 64 64 (m_rrw q_6) (m_now q_6) 0 0 64 q_7 hv_8) (va_cwS 5 hts gX2_load_X2_copy rfl rfl rfl (by decide +kernel) ⟨Nat.le_of_ble_eq_true rfl, Nat.le_of_ble_eq_true rfl⟩) hK hP hD hS hA [2, 3] rfl (by decide) rfl (by rw [eq_9]; simp only [va_sets, List.cons_append, List.nil_append, md_set_0, md_self_rrw, md_set_now]) rfl hl.1 rfl (Nat.le_of_ble_eq_true rfl) dX2_load_43 ⟨Nat.le_of_ble_eq_true rfl, Nat.le_of_ble_eq_true rfl⟩ (fun H locs hP hD hS => ?_)
      refine W.eq (g2 := F0 m 46 ls []) rfl ?_
      refine lv_aload_n hx hb dX2_load_46 rfl (lv_at hl 0 rfl) ?_
      refine lv_iconst (v := 0) hx hb dX2_load_47 (by decide) ?_
      refine va_put (D := D) (ci := 2) (v := .int 0) (ty := .int) (C := RX2) (T := TX2) (N := 15) hx hb hts w_1 tyX2 tyX2_ok nmX2 hown hK hP hD hS 0 rfl rfl 10 (by decide) w_5 (fun _ h9 => h9) rfl (by decide +kernel) rfl rfl (Nat.le_of_ble_eq_true rfl) dX2_load_48 (fun H locs hP hD hS => ?_)
      obtain ⟨q_10, eq_10⟩ : ∃ y : MdV, y = mu_act q_9 0 := ⟨_, rfl⟩
      have hP : va_P D vwCl (mdW k b q_10) H := by rw [eq_10, ← md_set_act k b q_9 _]; exact hP
      have hD : va_D A (mdW k b q_10) := by rw [eq_10, ← md_set_act k b q_9 _]; exact hD
      have h := nm_l h eq_10
      refine lv_aload_n hx hb dX2_load_51 rfl (lv_at hl 0 rfl) ?_
      refine va_get (D := D) (ci := 2) (v := .ref (b 7)) (C := RX2) (T := TX2) (N := 15) hx hb hts w_1 hown hK hP 0 rfl rfl 12 (by decide) w_6 (fun _ h9 => h9) rfl dX2_load_52 ?_
      refine lv_iconst (v := 0) hx hb dX2_load_55 (by decide) ?_
      refine lv_iconst (v := 0) hx hb dX2_load_56 (by decide) ?_
      refine va_zast hx hb hK hP hD hS 7 2 rfl rfl (inb_vp (by decide)) dX2_load_57 (fun H locs hP hD hS => ?_)
      obtain ⟨q_11, eq_11⟩ : ∃ y : MdV, y = mu_isk q_10 (upd (m_isk q_10) 0 (vp_nar .boolean 0)) := ⟨_, rfl⟩
      have hP : va_P D vwCl (mdW k b q_11) H := by rw [eq_11, ← md_set_isk k b q_10 _]; exact hP
      have hD : va_D A (mdW k b q_11) := by rw [eq_11, ← md_set_isk k b q_10 _]; exact hD
      have h := nm_l h eq_11
      refine lv_aload_n hx hb dX2_load_58 rfl (lv_at hl 0 rfl) ?_
      refine va_get (D := D) (ci := 2) (v := .ref (b 7)) (C := RX2) (T := TX2) (N := 15) hx hb hts w_1 hown hK hP 0 rfl rfl 12 (by decide) w_6 (fun _ h9 => h9) rfl dX2_load_59 ?_
      refine lv_iconst (v := 1) hx hb dX2_load_62 (by decide) ?_
      refine lv_iconst (v := 0) hx hb dX2_load_63 (by decide) ?_
      refine va_zast hx hb hK hP hD hS 7 2 rfl rfl (inb_vp (by decide)) dX2_load_64 (fun H locs hP hD hS => ?_)
      obtain ⟨q_12, eq_12⟩ : ∃ y : MdV, y = mu_isk q_11 (upd (m_isk q_11) 1 (vp_nar .boolean 0)) := ⟨_, rfl⟩
      have hP : va_P D vwCl (mdW k b q_12) H := by rw [eq_12, ← md_set_isk k b q_11 _]; exact hP
      have hD : va_D A (mdW k b q_12) := by rw [eq_12, ← md_set_isk k b q_11 _]; exact hD
      have h := nm_l h eq_12
      refine lv_aload_n hx hb dX2_load_65 rfl (lv_at hl 0 rfl) ?_
      refine lv_aload_n hx hb dX2_load_66 rfl (lv_at hl 0 rfl) ?_
      refine va_get (D := D) (ci := 2) (v := .ref (b 3)) (C := RX2) (T := TX2) (N := 15) hx hb hts w_1 hown hK hP 0 rfl rfl 7 (by decide) w_4 (fun _ h9 => h9) rfl dX2_load_67 ?_
      refine lv_bipush (v := 6) hx hb dX2_load_70 (by decide) ?_
      obtain ⟨v_13, hv_14, h⟩ := bd_l h
      refine Ck_V (As := [.ref (b 3), .int 6]) (rest := []) (wc := [mdO b q_12] ++ [(b 3, .inl (k 0, 64, .inl (m_now q_12)))]) (wc' := [mdO b q_12] ++ [(b 3, .inl (k 0, 64, .inl (m_now q_12)))]) (w0' := mdW k b q_12) ⟨hx, hb, hml, hown, hts⟩ (c_X2_sumOf l D k b (b 3) q_12 (m_now q_12) 6 v_13 hv_14) (cwV 2 hts gX2_load_X2_sumOf rfl rfl rfl (by decide +kernel) ⟨Nat.le_of_ble_eq_true rfl, Nat.le_of_ble_eq_true rfl⟩) hK hP hD hS hA (q0 := 0) (ci := 2) rfl rfl [0, 3] rfl (by decide) rfl rfl rfl hl.1 rfl (Nat.le_of_ble_eq_true rfl) dX2_load_72 ⟨Nat.le_of_ble_eq_true rfl, Nat.le_of_ble_eq_true rfl⟩ (fun H locs hP hD hS => ?_)
      refine W.eq (g2 := F0 m 75 ls [.int v_13]) rfl ?_
      refine lv_aload_n hx hb dX2_load_75 rfl (lv_at hl 0 rfl) ?_
      refine lv_aload_n hx hb dX2_load_76 rfl (lv_at hl 0 rfl) ?_
      refine va_get (D := D) (ci := 2) (v := .ref (b 3)) (C := RX2) (T := TX2) (N := 15) hx hb hts w_1 hown hK hP 0 rfl rfl 7 (by decide) w_4 (fun _ h9 => h9) rfl dX2_load_77 ?_
      refine lv_bipush (v := 12) hx hb dX2_load_80 (by decide) ?_
      obtain ⟨v_15, hv_16, h⟩ := bd_l h
      refine Ck_V (As := [.ref (b 3), .int 12]) (rest := [.int v_13]) (wc := [mdO b q_12] ++ [(b 3, .inl (k 0, 64, .inl (m_now q_12)))]) (wc' := [mdO b q_12] ++ [(b 3, .inl (k 0, 64, .inl (m_now q_12)))]) (w0' := mdW k b q_12) ⟨hx, hb, hml, hown, hts⟩ (c_X2_sumOf l D k b (b 3) q_12 (m_now q_12) 12 v_15 hv_16) (cwV 2 hts gX2_load_X2_sumOf rfl rfl rfl (by decide +kernel) ⟨Nat.le_of_ble_eq_true rfl, Nat.le_of_ble_eq_true rfl⟩) hK hP hD hS hA (q0 := 0) (ci := 2) rfl rfl [0, 3] rfl (by decide) rfl rfl rfl hl.1 rfl (Nat.le_of_ble_eq_true rfl) dX2_load_82 ⟨Nat.le_of_ble_eq_true rfl, Nat.le_of_ble_eq_true rfl⟩ (fun H locs hP hD hS => ?_)
      refine W.eq (g2 := F0 m 85 ls [.int v_15, .int v_13]) rfl ?_
      refine lv_iadd hx hb dX2_load_85 ?_
      cases h
      exact Ck_iret hx hb hr hP hD hS dX2_load_86 hlocks
    · have h := it_r c_4 h
      refine lv_iconst (v := 0) hx hb dX2_load_21 (by decide) ?_
      cases h
      exact Ck_iret hx hb hr hP hD hS dX2_load_22 hlocks
  refine lv_aload_n hx hb dX2_load_0 rfl (lv_at hl 0 rfl) ?_
  refine lv_aload_n hx hb dX2_load_1 rfl (lv_at hl 0 rfl) ?_
  obtain ⟨⟨v_17, q_18⟩, hv_19, h⟩ := bd_l h
  refine Ck_V (As := []) (rest := [.ref (b 0)]) (wc := mdW k b M) (wc' := mdW k b q_18) (w0' := mdW k b q_18) ⟨hx, hb, hml, hown, hts⟩ (c_X2_readText l D k b M v_17 q_18 hv_19) (cwV 0 hts gX2_load_X2_readText rfl rfl rfl (by decide +kernel) ⟨Nat.le_of_ble_eq_true rfl, Nat.le_of_ble_eq_true rfl⟩) hK hP hD hS hA (q0 := 0) (ci := 2) rfl rfl [0, 1, 2, 3, 4, 5, 6, 7, 8, 9] rfl (by decide) rfl rfl rfl hl.1 rfl (Nat.le_of_ble_eq_true rfl) dX2_load_2 ⟨Nat.le_of_ble_eq_true rfl, Nat.le_of_ble_eq_true rfl⟩ (fun H locs hP hD hS => ?_)
  refine W.eq (g2 := F0 m 5 ls [.int v_17, .ref (b 0)]) rfl ?_
  refine lv_bipush (v := (-9)) hx hb dX2_load_5 (by decide) ?_
  refine lv_icmp_ne (tgt := 14) hx hb dX2_load_7 (by decide) (fun c_20 => ?_) (fun c_20 => ?_)
  · have h := it_r c_20 h
    refine lv_iconst (v := 1) hx hb dX2_load_14 (by decide) ?_
    exact hC_15 1 q_18 _ _ _ hP hD hS (lv_sub hl [0] rfl) h
  · have h := it_l c_20 h
    refine lv_iconst (v := 0) hx hb dX2_load_10 (by decide) ?_
    refine lv_goto (tgt := 15) hx hb dX2_load_11 (by decide) ?_
    exact hC_15 0 q_18 _ _ _ hP hD hS (lv_sub hl [0] rfl) h
def f_X2_about_18 (M : MdV) (p1 : Int32) (t0_18 : Int32) : Option (Int32 × MdV) := bd (f_X2_refused M t0_18) fun ⟨v_1, q_2⟩ => if v_1 = 0 then (if p1 = 0 then (some ((m_n q_2), q_2)) else (if p1 = 1 then (gb (inb ((48 + p1) - 1) 64) <| some (((m_now q_2) ((48 + p1) - 1).toNatClampNeg), q_2)) else (if p1 = 2 then (gb (inb ((48 + p1) - 1) 64) <| some (((m_now q_2) ((48 + p1) - 1).toNatClampNeg), q_2)) else (if p1 = 3 then (gb (inb ((48 + p1) - 1) 64) <| some (((m_now q_2) ((48 + p1) - 1).toNatClampNeg), q_2)) else (if p1 = 4 then (gb (inb ((48 + p1) - 1) 64) <| some (((m_now q_2) ((48 + p1) - 1).toNatClampNeg), q_2)) else (if p1 = 5 then (gb (inb ((48 + p1) - 1) 64) <| some (((m_now q_2) ((48 + p1) - 1).toNatClampNeg), q_2)) else (if p1 = 6 then (some (((m_now q_2) 53), q_2)) else (if p1 = 7 then (bd (f_X2_washed q_2 (m_now q_2)) fun v_18 => some (v_18, q_2)) else (if p1 = 8 then (bd (f_X2_sumOf q_2 (m_now q_2) 6) fun v_21 => some (v_21, q_2)) else (if p1 = 9 then (bd (f_X2_sumOf q_2 (m_now q_2) 12) fun v_24 => some (v_24, q_2)) else (gb (inb ((48 + p1) - 1) 64) <| some (((m_now q_2) ((48 + p1) - 1).toNatClampNeg), q_2)))))))))))) else (some (0, q_2))
def f_X2_about (M : MdV) (p1 : Int32) : Option (Int32 × MdV) := bd (f_X2_in (p1.toInt64) 0 9) fun v_27 => if v_27 = 0 then (f_X2_about_18 M p1 1) else (f_X2_about_18 M p1 0)
set_option maxRecDepth 100000 in
set_option maxHeartbeats 4000000 in
theorem c_X2_about (l : Launch) (D : va_G) (k : Nat → ClassId) (b : Nat → Nat) (M : MdV) (p1 : Int32) (o0 : Int32) (o1 : MdV) (h : f_X2_about M p1 = some (o0, o1)) : Ck l D (tyK k) yX2_about wsX2_about ({ frames := 2, cells := 0, slots := 0, locals := 44 } : Room) [.ref (b 0), .int p1] (mdW k b M) (some (.int o0)) (mdW k b o1) := by
  refine Ck_of (cc := cX2_about) (maxL := 2) (ret := (some .int)) (by decide) rfl (Nat.le_of_ble_eq_true rfl) ?_
  intro p e s m args below meth c A ls hx hb hr hml hts hown hlocks hK hA hP hD hS hl
  have hl : lv_has ls 2 [(0, .ref (b 0)), (1, .int p1)] := hl
  have hP : va_P D vwCl (mdW k b M) s.heap := hP
  have w_0 := hts (.fieldLink RX2 38 "EffectTrainModel" "n" "I") (by decide +kernel)
  have w_1 : ∀ w ∈ wsX20, w ∈ wsX2_about := by decide +kernel
  have w_2 := hts (.fieldLink RX2 16 "EffectTrainModel" "now" "[I") (by decide +kernel)
  have w_3 := hts (.constantLong RX2 109 (9)) (by decide +kernel)
  unfold f_X2_about at h
  have hC_18 : ∀ (t0_18 : Int32) (H : Heap) (locs : List Loc) (ls : Array Slot), va_P D vwCl (mdW k b M) H → va_D A (mdW k b M) → va_S A s.heap H locs → lv_has ls 2 [(0, .ref (b 0)), (1, .int p1)] → f_X2_about_18 M p1 t0_18 = some (o0, o1) → W p l e ({ frames := 2, cells := 0, slots := 0, locals := 44 } : Room) s m args below meth c H locs 0 0 (MQ below (Qk D A (some (.int o0)) (mdW k b o1)) args s 0 0 A) (F0 m 18 ls [.int t0_18, .ref (b 0)]) := by
    intro t0_18 H locs ls hP hD hS hl h
    unfold f_X2_about_18 at h
    obtain ⟨⟨v_1, q_2⟩, hv_3, h⟩ := bd_l h
    refine Ck_V (As := [.int t0_18]) (rest := []) (wc := mdW k b M) (wc' := mdW k b q_2) (w0' := mdW k b q_2) ⟨hx, hb, hml, hown, hts⟩ (c_X2_refused l D k b M t0_18 v_1 q_2 hv_3) (cwV 1 hts gX2_about_X2_refused rfl rfl rfl (by decide +kernel) ⟨Nat.le_of_ble_eq_true rfl, Nat.le_of_ble_eq_true rfl⟩) hK hP hD hS hA (q0 := 0) (ci := 2) rfl rfl [0, 1, 2, 3, 4, 5, 6, 7, 8, 9] rfl (by decide) rfl rfl rfl hl.1 rfl (Nat.le_of_ble_eq_true rfl) dX2_about_18 ⟨Nat.le_of_ble_eq_true rfl, Nat.le_of_ble_eq_true rfl⟩ (fun H locs hP hD hS => ?_)
    refine W.eq (g2 := F0 m 21 ls [.int v_1]) rfl ?_
    refine lv_if_eq (tgt := 26) hx hb dX2_about_21 (by decide) (fun c_4 => ?_) (fun c_4 => ?_)
    · have h := it_l c_4 h
      refine lv_iload_n hx hb dX2_about_26 rfl (lv_at hl 1 rfl) ?_
      by_cases c_5 : p1 = 0
      · have h := it_l c_5 h
        refine lv_tableIn (tgt := 80) hx hb dX2_about_27 (by rw [c_5]; decide) (by rw [c_5]; decide) (by rw [c_5]; rfl) (by decide) ?_
        refine lv_aload_n hx hb dX2_about_80 rfl (lv_at hl 0 rfl) ?_
        refine va_get (D := D) (ci := 2) (v := .int (m_n q_2)) (C := RX2) (T := TX2) (N := 15) hx hb hts w_1 hown hK hP 0 rfl rfl 6 (by decide) w_0 (fun _ h9 => h9) rfl dX2_about_81 ?_
        cases h
        exact Ck_iret hx hb hr hP hD hS dX2_about_84 hlocks
      · have h := it_r c_5 h
        by_cases c_6 : p1 = 1
        · have h := it_l c_6 h
          refine lv_tableIn (tgt := 124) hx hb dX2_about_27 (by rw [c_6]; decide) (by rw [c_6]; decide) (by rw [c_6]; rfl) (by decide) ?_
          refine lv_aload_n hx hb dX2_about_124 rfl (lv_at hl 0 rfl) ?_
          refine va_get (D := D) (ci := 2) (v := .ref (b 3)) (C := RX2) (T := TX2) (N := 15) hx hb hts w_1 hown hK hP 0 rfl rfl 7 (by decide) w_2 (fun _ h9 => h9) rfl dX2_about_125 ?_
          refine lv_bipush (v := 48) hx hb dX2_about_128 (by decide) ?_
          refine lv_iload_n hx hb dX2_about_130 rfl (lv_at hl 1 rfl) ?_
          refine lv_iadd hx hb dX2_about_131 ?_
          refine lv_iconst (v := 1) hx hb dX2_about_132 (by decide) ?_
          refine lv_isub hx hb dX2_about_133 ?_
          have g_7 := inb_vp (gb_l h)
          have h := gb_r h
          refine va_iald hx hb hK hP 3 0 rfl rfl g_7 dX2_about_134 ?_
          cases h
          exact Ck_iret hx hb hr hP hD hS dX2_about_135 hlocks
        · have h := it_r c_6 h
          by_cases c_8 : p1 = 2
          · have h := it_l c_8 h
            refine lv_tableIn (tgt := 124) hx hb dX2_about_27 (by rw [c_8]; decide) (by rw [c_8]; decide) (by rw [c_8]; rfl) (by decide) ?_
            refine lv_aload_n hx hb dX2_about_124 rfl (lv_at hl 0 rfl) ?_
            refine va_get (D := D) (ci := 2) (v := .ref (b 3)) (C := RX2) (T := TX2) (N := 15) hx hb hts w_1 hown hK hP 0 rfl rfl 7 (by decide) w_2 (fun _ h9 => h9) rfl dX2_about_125 ?_
            refine lv_bipush (v := 48) hx hb dX2_about_128 (by decide) ?_
            refine lv_iload_n hx hb dX2_about_130 rfl (lv_at hl 1 rfl) ?_
            refine lv_iadd hx hb dX2_about_131 ?_
            refine lv_iconst (v := 1) hx hb dX2_about_132 (by decide) ?_
            refine lv_isub hx hb dX2_about_133 ?_
            have g_9 := inb_vp (gb_l h)
            have h := gb_r h
            refine va_iald hx hb hK hP 3 0 rfl rfl g_9 dX2_about_134 ?_
            cases h
            exact Ck_iret hx hb hr hP hD hS dX2_about_135 hlocks
          · have h := it_r c_8 h
            by_cases c_10 : p1 = 3
            · have h := it_l c_10 h
              refine lv_tableIn (tgt := 124) hx hb dX2_about_27 (by rw [c_10]; decide) (by rw [c_10]; decide) (by rw [c_10]; rfl) (by decide) ?_
              refine lv_aload_n hx hb dX2_about_124 rfl (lv_at hl 0 rfl) ?_
              refine va_get (D := D) (ci := 2) (v := .ref (b 3)) (C := RX2) (T := TX2) (N := 15) hx hb hts w_1 hown hK hP 0 rfl rfl 7 (by decide) w_2 (fun _ h9 => h9) rfl dX2_about_125 ?_
              refine lv_bipush (v := 48) hx hb dX2_about_128 (by decide) ?_
              refine lv_iload_n hx hb dX2_about_130 rfl (lv_at hl 1 rfl) ?_
              refine lv_iadd hx hb dX2_about_131 ?_
              refine lv_iconst (v := 1) hx hb dX2_about_132 (by decide) ?_
              refine lv_isub hx hb dX2_about_133 ?_
              have g_11 := inb_vp (gb_l h)
              have h := gb_r h
              refine va_iald hx hb hK hP 3 0 rfl rfl g_11 dX2_about_134 ?_
              cases h
              exact Ck_iret hx hb hr hP hD hS dX2_about_135 hlocks
            · have h := it_r c_10 h
              by_cases c_12 : p1 = 4
              · have h := it_l c_12 h
                refine lv_tableIn (tgt := 124) hx hb dX2_about_27 (by rw [c_12]; decide) (by rw [c_12]; decide) (by rw [c_12]; rfl) (by decide) ?_
                refine lv_aload_n hx hb dX2_about_124 rfl (lv_at hl 0 rfl) ?_
                refine va_get (D := D) (ci := 2) (v := .ref (b 3)) (C := RX2) (T := TX2) (N := 15) hx hb hts w_1 hown hK hP 0 rfl rfl 7 (by decide) w_2 (fun _ h9 => h9) rfl dX2_about_125 ?_
                refine lv_bipush (v := 48) hx hb dX2_about_128 (by decide) ?_
                refine lv_iload_n hx hb dX2_about_130 rfl (lv_at hl 1 rfl) ?_
                refine lv_iadd hx hb dX2_about_131 ?_
                refine lv_iconst (v := 1) hx hb dX2_about_132 (by decide) ?_
                refine lv_isub hx hb dX2_about_133 ?_
                have g_13 := inb_vp (gb_l h)
                have h := gb_r h
                refine va_iald hx hb hK hP 3 0 rfl rfl g_13 dX2_about_134 ?_
                cases h
                exact Ck_iret hx hb hr hP hD hS dX2_about_135 hlocks
              · have h := it_r c_12 h
                by_cases c_14 : p1 = 5
                · have h := it_l c_14 h
                  refine lv_tableIn (tgt := 124) hx hb dX2_about_27 (by rw [c_14]; decide) (by rw [c_14]; decide) (by rw [c_14]; rfl) (by decide) ?_
                  refine lv_aload_n hx hb dX2_about_124 rfl (lv_at hl 0 rfl) ?_
                  refine va_get (D := D) (ci := 2) (v := .ref (b 3)) (C := RX2) (T := TX2) (N := 15) hx hb hts w_1 hown hK hP 0 rfl rfl 7 (by decide) w_2 (fun _ h9 => h9) rfl dX2_about_125 ?_
                  refine lv_bipush (v := 48) hx hb dX2_about_128 (by decide) ?_
                  refine lv_iload_n hx hb dX2_about_130 rfl (lv_at hl 1 rfl) ?_
                  refine lv_iadd hx hb dX2_about_131 ?_
                  refine lv_iconst (v := 1) hx hb dX2_about_132 (by decide) ?_
                  refine lv_isub hx hb dX2_about_133 ?_
                  have g_15 := inb_vp (gb_l h)
                  have h := gb_r h
                  refine va_iald hx hb hK hP 3 0 rfl rfl g_15 dX2_about_134 ?_
                  cases h
                  exact Ck_iret hx hb hr hP hD hS dX2_about_135 hlocks
                · have h := it_r c_14 h
                  by_cases c_16 : p1 = 6
                  · have h := it_l c_16 h
                    refine lv_tableIn (tgt := 85) hx hb dX2_about_27 (by rw [c_16]; decide) (by rw [c_16]; decide) (by rw [c_16]; rfl) (by decide) ?_
                    refine lv_aload_n hx hb dX2_about_85 rfl (lv_at hl 0 rfl) ?_
                    refine va_get (D := D) (ci := 2) (v := .ref (b 3)) (C := RX2) (T := TX2) (N := 15) hx hb hts w_1 hown hK hP 0 rfl rfl 7 (by decide) w_2 (fun _ h9 => h9) rfl dX2_about_86 ?_
                    refine lv_bipush (v := 53) hx hb dX2_about_89 (by decide) ?_
                    refine va_iald hx hb hK hP 3 0 rfl rfl (inb_vp (by decide)) dX2_about_91 ?_
                    refine W.eq (g2 := F0 m 92 ls [.int ((m_now q_2) 53)]) rfl ?_
                    cases h
                    exact Ck_iret hx hb hr hP hD hS dX2_about_92 hlocks
                  · have h := it_r c_16 h
                    by_cases c_17 : p1 = 7
                    · have h := it_l c_17 h
                      refine lv_tableIn (tgt := 93) hx hb dX2_about_27 (by rw [c_17]; decide) (by rw [c_17]; decide) (by rw [c_17]; rfl) (by decide) ?_
                      refine lv_aload_n hx hb dX2_about_93 rfl (lv_at hl 0 rfl) ?_
                      refine lv_aload_n hx hb dX2_about_94 rfl (lv_at hl 0 rfl) ?_
                      refine va_get (D := D) (ci := 2) (v := .ref (b 3)) (C := RX2) (T := TX2) (N := 15) hx hb hts w_1 hown hK hP 0 rfl rfl 7 (by decide) w_2 (fun _ h9 => h9) rfl dX2_about_95 ?_
                      obtain ⟨v_18, hv_19, h⟩ := bd_l h
                      refine Ck_V (As := [.ref (b 3)]) (rest := []) (wc := [mdO b q_2] ++ [(b 3, .inl (k 0, 64, .inl (m_now q_2)))]) (wc' := [mdO b q_2] ++ [(b 3, .inl (k 0, 64, .inl (m_now q_2)))]) (w0' := mdW k b q_2) ⟨hx, hb, hml, hown, hts⟩ (c_X2_washed l D k b (b 3) q_2 (m_now q_2) v_18 hv_19) (cwV 1 hts gX2_about_X2_washed rfl rfl rfl (by decide +kernel) ⟨Nat.le_of_ble_eq_true rfl, Nat.le_of_ble_eq_true rfl⟩) hK hP hD hS hA (q0 := 0) (ci := 2) rfl rfl [0, 3] rfl (by decide) rfl rfl rfl hl.1 rfl (Nat.le_of_ble_eq_true rfl) dX2_about_98 ⟨Nat.le_of_ble_eq_true rfl, Nat.le_of_ble_eq_true rfl⟩ (fun H locs hP hD hS => ?_)
                      refine W.eq (g2 := F0 m 101 ls [.int v_18]) rfl ?_
                      cases h
                      exact Ck_iret hx hb hr hP hD hS dX2_about_101 hlocks
                    · have h := it_r c_17 h
                      by_cases c_20 : p1 = 8
                      · have h := it_l c_20 h
                        refine lv_tableIn (tgt := 102) hx hb dX2_about_27 (by rw [c_20]; decide) (by rw [c_20]; decide) (by rw [c_20]; rfl) (by decide) ?_
                        refine lv_aload_n hx hb dX2_about_102 rfl (lv_at hl 0 rfl) ?_
                        refine lv_aload_n hx hb dX2_about_103 rfl (lv_at hl 0 rfl) ?_
                        refine va_get (D := D) (ci := 2) (v := .ref (b 3)) (C := RX2) (T := TX2) (N := 15) hx hb hts w_1 hown hK hP 0 rfl rfl 7 (by decide) w_2 (fun _ h9 => h9) rfl dX2_about_104 ?_
                        refine lv_bipush (v := 6) hx hb dX2_about_107 (by decide) ?_
                        obtain ⟨v_21, hv_22, h⟩ := bd_l h
                        refine Ck_V (As := [.ref (b 3), .int 6]) (rest := []) (wc := [mdO b q_2] ++ [(b 3, .inl (k 0, 64, .inl (m_now q_2)))]) (wc' := [mdO b q_2] ++ [(b 3, .inl (k 0, 64, .inl (m_now q_2)))]) (w0' := mdW k b q_2) ⟨hx, hb, hml, hown, hts⟩ (c_X2_sumOf l D k b (b 3) q_2 (m_now q_2) 6 v_21 hv_22) (cwV 2 hts gX2_about_X2_sumOf rfl rfl rfl (by decide +kernel) ⟨Nat.le_of_ble_eq_true rfl, Nat.le_of_ble_eq_true rfl⟩) hK hP hD hS hA (q0 := 0) (ci := 2) rfl rfl [0, 3] rfl (by decide) rfl rfl rfl hl.1 rfl (Nat.le_of_ble_eq_true rfl) dX2_about_109 ⟨Nat.le_of_ble_eq_true rfl, Nat.le_of_ble_eq_true rfl⟩ (fun H locs hP hD hS => ?_)
                        refine W.eq (g2 := F0 m 112 ls [.int v_21]) rfl ?_
                        cases h
                        exact Ck_iret hx hb hr hP hD hS dX2_about_112 hlocks
                      · have h := it_r c_20 h
                        by_cases c_23 : p1 = 9
                        · have h := it_l c_23 h
                          refine lv_tableIn (tgt := 113) hx hb dX2_about_27 (by rw [c_23]; decide) (by rw [c_23]; decide) (by rw [c_23]; rfl) (by decide) ?_
                          refine lv_aload_n hx hb dX2_about_113 rfl (lv_at hl 0 rfl) ?_
                          refine lv_aload_n hx hb dX2_about_114 rfl (lv_at hl 0 rfl) ?_
                          refine va_get (D := D) (ci := 2) (v := .ref (b 3)) (C := RX2) (T := TX2) (N := 15) hx hb hts w_1 hown hK hP 0 rfl rfl 7 (by decide) w_2 (fun _ h9 => h9) rfl dX2_about_115 ?_
                          refine lv_bipush (v := 12) hx hb dX2_about_118 (by decide) ?_
                          obtain ⟨v_24, hv_25, h⟩ := bd_l h
                          refine Ck_V (As := [.ref (b 3), .int 12]) (rest := []) (wc := [mdO b q_2] ++ [(b 3, .inl (k 0, 64, .inl (m_now q_2)))]) (wc' := [mdO b q_2] ++ [(b 3, .inl (k 0, 64, .inl (m_now q_2)))]) (w0' := mdW k b q_2) ⟨hx, hb, hml, hown, hts⟩ (c_X2_sumOf l D k b (b 3) q_2 (m_now q_2) 12 v_24 hv_25) (cwV 2 hts gX2_about_X2_sumOf rfl rfl rfl (by decide +kernel) ⟨Nat.le_of_ble_eq_true rfl, Nat.le_of_ble_eq_true rfl⟩) hK hP hD hS hA (q0 := 0) (ci := 2) rfl rfl [0, 3] rfl (by decide) rfl rfl rfl hl.1 rfl (Nat.le_of_ble_eq_true rfl) dX2_about_120 ⟨Nat.le_of_ble_eq_true rfl, Nat.le_of_ble_eq_true rfl⟩ (fun H locs hP hD hS => ?_)
                          refine W.eq (g2 := F0 m 123 ls [.int v_24]) rfl ?_
                          cases h
                          exact Ck_iret hx hb hr hP hD hS dX2_about_123 hlocks
                        · have h := it_r c_23 h
                          have n_c_5 : ¬ p1.toInt = 0 := fun z9 => c_5 (Int32.toInt_inj.mp (z9.trans (by decide)))
                          have n_c_6 : ¬ p1.toInt = 1 := fun z9 => c_6 (Int32.toInt_inj.mp (z9.trans (by decide)))
                          have n_c_8 : ¬ p1.toInt = 2 := fun z9 => c_8 (Int32.toInt_inj.mp (z9.trans (by decide)))
                          have n_c_10 : ¬ p1.toInt = 3 := fun z9 => c_10 (Int32.toInt_inj.mp (z9.trans (by decide)))
                          have n_c_12 : ¬ p1.toInt = 4 := fun z9 => c_12 (Int32.toInt_inj.mp (z9.trans (by decide)))
                          have n_c_14 : ¬ p1.toInt = 5 := fun z9 => c_14 (Int32.toInt_inj.mp (z9.trans (by decide)))
                          have n_c_16 : ¬ p1.toInt = 6 := fun z9 => c_16 (Int32.toInt_inj.mp (z9.trans (by decide)))
                          have n_c_17 : ¬ p1.toInt = 7 := fun z9 => c_17 (Int32.toInt_inj.mp (z9.trans (by decide)))
                          have n_c_20 : ¬ p1.toInt = 8 := fun z9 => c_20 (Int32.toInt_inj.mp (z9.trans (by decide)))
                          have n_c_23 : ¬ p1.toInt = 9 := fun z9 => c_23 (Int32.toInt_inj.mp (z9.trans (by decide)))
                          refine lv_tableOut (tgt := 124) hx hb dX2_about_27 (by omega) (by decide) ?_
                          refine lv_aload_n hx hb dX2_about_124 rfl (lv_at hl 0 rfl) ?_
                          refine va_get (D := D) (ci := 2) (v := .ref (b 3)) (C := RX2) (T := TX2) (N := 15) hx hb hts w_1 hown hK hP 0 rfl rfl 7 (by decide) w_2 (fun _ h9 => h9) rfl dX2_about_125 ?_
                          refine lv_bipush (v := 48) hx hb dX2_about_128 (by decide) ?_
                          refine lv_iload_n hx hb dX2_about_130 rfl (lv_at hl 1 rfl) ?_
                          refine lv_iadd hx hb dX2_about_131 ?_
                          refine lv_iconst (v := 1) hx hb dX2_about_132 (by decide) ?_
                          refine lv_isub hx hb dX2_about_133 ?_
                          have g_26 := inb_vp (gb_l h)
                          have h := gb_r h
                          refine va_iald hx hb hK hP 3 0 rfl rfl g_26 dX2_about_134 ?_
                          cases h
                          exact Ck_iret hx hb hr hP hD hS dX2_about_135 hlocks
    · have h := it_r c_4 h
      refine lv_iconst (v := 0) hx hb dX2_about_24 (by decide) ?_
      cases h
      exact Ck_iret hx hb hr hP hD hS dX2_about_25 hlocks
  refine lv_aload_n hx hb dX2_about_0 rfl (lv_at hl 0 rfl) ?_
  refine lv_iload_n hx hb dX2_about_1 rfl (lv_at hl 1 rfl) ?_
  refine lv_i2l hx hb dX2_about_2 rfl ?_
  refine lv_lconst (v := 0) hx hb dX2_about_3 (by decide) ?_
  refine lv_ldc2 (v := 9) hx hb hown w_3 dX2_about_4 ?_
  obtain ⟨v_27, hv_28, h⟩ := bd_l h
  refine Ck_S (As := [.long (p1.toInt64), .long 0, .long 9]) (rest := [.ref (b 0)]) (wc := ([] : va_W)) (wc' := ([] : va_W)) (w0' := mdW k b M) ⟨hx, hb, hml, hown, hts⟩ (c_X2_in l D k  (p1.toInt64) 0 9 v_27 hv_28) (va_cwS 3 hts gX2_about_X2_in rfl rfl rfl (by decide +kernel) ⟨Nat.le_of_ble_eq_true rfl, Nat.le_of_ble_eq_true rfl⟩) hK hP hD hS hA [] rfl (by decide) rfl rfl rfl hl.1 rfl (Nat.le_of_ble_eq_true rfl) dX2_about_7 ⟨Nat.le_of_ble_eq_true rfl, Nat.le_of_ble_eq_true rfl⟩ (fun H locs hP hD hS => ?_)
  refine W.eq (g2 := F0 m 10 ls [.int v_27, .ref (b 0)]) rfl ?_
  refine lv_if_eq (tgt := 17) hx hb dX2_about_10 (by decide) (fun c_29 => ?_) (fun c_29 => ?_)
  · have h := it_l c_29 h
    refine lv_iconst (v := 1) hx hb dX2_about_17 (by decide) ?_
    exact hC_18 1 _ _ _ hP hD hS (lv_sub hl [0, 1] rfl) h
  · have h := it_r c_29 h
    refine lv_iconst (v := 0) hx hb dX2_about_13 (by decide) ?_
    refine lv_goto (tgt := 18) hx hb dX2_about_14 (by decide) ?_
    exact hC_18 0 _ _ _ hP hD hS (lv_sub hl [0, 1] rfl) h
def f_X2_total_18 (M : MdV) (p1 : Int32) (t0_18 : Int32) : Option (Int32 × MdV) := bd (f_X2_refused M t0_18) fun ⟨v_1, q_2⟩ => if v_1 = 0 then (gb (inb (54 + p1) 64) <| some (((m_now q_2) (54 + p1).toNatClampNeg), q_2)) else (some (0, q_2))
def f_X2_total (M : MdV) (p1 : Int32) : Option (Int32 × MdV) := bd (f_X2_in (p1.toInt64) 0 9) fun v_6 => if v_6 = 0 then (f_X2_total_18 M p1 1) else (f_X2_total_18 M p1 0)
set_option maxRecDepth 100000 in
set_option maxHeartbeats 4000000 in
theorem c_X2_total (l : Launch) (D : va_G) (k : Nat → ClassId) (b : Nat → Nat) (M : MdV) (p1 : Int32) (o0 : Int32) (o1 : MdV) (h : f_X2_total M p1 = some (o0, o1)) : Ck l D (tyK k) yX2_total wsX2_total ({ frames := 1, cells := 0, slots := 0, locals := 25 } : Room) [.ref (b 0), .int p1] (mdW k b M) (some (.int o0)) (mdW k b o1) := by
  refine Ck_of (cc := cX2_total) (maxL := 2) (ret := (some .int)) (by decide) rfl (Nat.le_of_ble_eq_true rfl) ?_
  intro p e s m args below meth c A ls hx hb hr hml hts hown hlocks hK hA hP hD hS hl
  have hl : lv_has ls 2 [(0, .ref (b 0)), (1, .int p1)] := hl
  have hP : va_P D vwCl (mdW k b M) s.heap := hP
  have w_0 := hts (.fieldLink RX2 16 "EffectTrainModel" "now" "[I") (by decide +kernel)
  have w_1 : ∀ w ∈ wsX20, w ∈ wsX2_total := by decide +kernel
  have w_2 := hts (.constantLong RX2 109 (9)) (by decide +kernel)
  unfold f_X2_total at h
  have hC_18 : ∀ (t0_18 : Int32) (H : Heap) (locs : List Loc) (ls : Array Slot), va_P D vwCl (mdW k b M) H → va_D A (mdW k b M) → va_S A s.heap H locs → lv_has ls 2 [(0, .ref (b 0)), (1, .int p1)] → f_X2_total_18 M p1 t0_18 = some (o0, o1) → W p l e ({ frames := 1, cells := 0, slots := 0, locals := 25 } : Room) s m args below meth c H locs 0 0 (MQ below (Qk D A (some (.int o0)) (mdW k b o1)) args s 0 0 A) (F0 m 18 ls [.int t0_18, .ref (b 0)]) := by
    intro t0_18 H locs ls hP hD hS hl h
    unfold f_X2_total_18 at h
    obtain ⟨⟨v_1, q_2⟩, hv_3, h⟩ := bd_l h
    refine Ck_V (As := [.int t0_18]) (rest := []) (wc := mdW k b M) (wc' := mdW k b q_2) (w0' := mdW k b q_2) ⟨hx, hb, hml, hown, hts⟩ (c_X2_refused l D k b M t0_18 v_1 q_2 hv_3) (cwV 1 hts gX2_total_X2_refused rfl rfl rfl (by decide +kernel) ⟨Nat.le_of_ble_eq_true rfl, Nat.le_of_ble_eq_true rfl⟩) hK hP hD hS hA (q0 := 0) (ci := 2) rfl rfl [0, 1, 2, 3, 4, 5, 6, 7, 8, 9] rfl (by decide) rfl rfl rfl hl.1 rfl (Nat.le_of_ble_eq_true rfl) dX2_total_18 ⟨Nat.le_of_ble_eq_true rfl, Nat.le_of_ble_eq_true rfl⟩ (fun H locs hP hD hS => ?_)
    refine W.eq (g2 := F0 m 21 ls [.int v_1]) rfl ?_
    refine lv_if_eq (tgt := 26) hx hb dX2_total_21 (by decide) (fun c_4 => ?_) (fun c_4 => ?_)
    · have h := it_l c_4 h
      refine lv_aload_n hx hb dX2_total_26 rfl (lv_at hl 0 rfl) ?_
      refine va_get (D := D) (ci := 2) (v := .ref (b 3)) (C := RX2) (T := TX2) (N := 15) hx hb hts w_1 hown hK hP 0 rfl rfl 7 (by decide) w_0 (fun _ h9 => h9) rfl dX2_total_27 ?_
      refine lv_bipush (v := 54) hx hb dX2_total_30 (by decide) ?_
      refine lv_iload_n hx hb dX2_total_32 rfl (lv_at hl 1 rfl) ?_
      refine lv_iadd hx hb dX2_total_33 ?_
      have g_5 := inb_vp (gb_l h)
      have h := gb_r h
      refine va_iald hx hb hK hP 3 0 rfl rfl g_5 dX2_total_34 ?_
      cases h
      exact Ck_iret hx hb hr hP hD hS dX2_total_35 hlocks
    · have h := it_r c_4 h
      refine lv_iconst (v := 0) hx hb dX2_total_24 (by decide) ?_
      cases h
      exact Ck_iret hx hb hr hP hD hS dX2_total_25 hlocks
  refine lv_aload_n hx hb dX2_total_0 rfl (lv_at hl 0 rfl) ?_
  refine lv_iload_n hx hb dX2_total_1 rfl (lv_at hl 1 rfl) ?_
  refine lv_i2l hx hb dX2_total_2 rfl ?_
  refine lv_lconst (v := 0) hx hb dX2_total_3 (by decide) ?_
  refine lv_ldc2 (v := 9) hx hb hown w_2 dX2_total_4 ?_
  obtain ⟨v_6, hv_7, h⟩ := bd_l h
  refine Ck_S (As := [.long (p1.toInt64), .long 0, .long 9]) (rest := [.ref (b 0)]) (wc := ([] : va_W)) (wc' := ([] : va_W)) (w0' := mdW k b M) ⟨hx, hb, hml, hown, hts⟩ (c_X2_in l D k  (p1.toInt64) 0 9 v_6 hv_7) (va_cwS 3 hts gX2_total_X2_in rfl rfl rfl (by decide +kernel) ⟨Nat.le_of_ble_eq_true rfl, Nat.le_of_ble_eq_true rfl⟩) hK hP hD hS hA [] rfl (by decide) rfl rfl rfl hl.1 rfl (Nat.le_of_ble_eq_true rfl) dX2_total_7 ⟨Nat.le_of_ble_eq_true rfl, Nat.le_of_ble_eq_true rfl⟩ (fun H locs hP hD hS => ?_)
  refine W.eq (g2 := F0 m 10 ls [.int v_6, .ref (b 0)]) rfl ?_
  refine lv_if_eq (tgt := 17) hx hb dX2_total_10 (by decide) (fun c_8 => ?_) (fun c_8 => ?_)
  · have h := it_l c_8 h
    refine lv_iconst (v := 1) hx hb dX2_total_17 (by decide) ?_
    exact hC_18 1 _ _ _ hP hD hS (lv_sub hl [0, 1] rfl) h
  · have h := it_r c_8 h
    refine lv_iconst (v := 0) hx hb dX2_total_13 (by decide) ?_
    refine lv_goto (tgt := 18) hx hb dX2_total_14 (by decide) ?_
    exact hC_18 0 _ _ _ hP hD hS (lv_sub hl [0, 1] rfl) h
def f_X2_effect_30 (M : MdV) (p1 : Int32) (p2 : Int32) (t0_30 : Int32) : Option (Int32 × MdV) := bd (f_X2_refused M t0_30) fun ⟨v_1, q_2⟩ => if v_1 = 0 then (bd (f_X2_detail (m_now q_2) p1 p2) fun v_5 => some (v_5, q_2)) else (some (0, q_2))
def f_X2_effect (M : MdV) (p1 : Int32) (p2 : Int32) : Option (Int32 × MdV) := bd (f_X2_isEffect M p1) fun v_7 => if v_7 = 0 then (f_X2_effect_30 M p1 p2 1) else (bd (f_X2_in (p2.toInt64) 0 9) fun v_10 => if v_10 = 0 then (f_X2_effect_30 M p1 p2 2) else (f_X2_effect_30 M p1 p2 0))
set_option maxRecDepth 100000 in
set_option maxHeartbeats 4000000 in
theorem c_X2_effect (l : Launch) (D : va_G) (k : Nat → ClassId) (b : Nat → Nat) (M : MdV) (p1 : Int32) (p2 : Int32) (o0 : Int32) (o1 : MdV) (h : f_X2_effect M p1 p2 = some (o0, o1)) : Ck l D (tyK k) yX2_effect wsX2_effect ({ frames := 3, cells := 0, slots := 0, locals := 64 } : Room) [.ref (b 0), .int p1, .int p2] (mdW k b M) (some (.int o0)) (mdW k b o1) := by
  refine Ck_of (cc := cX2_effect) (maxL := 3) (ret := (some .int)) (by decide) rfl (Nat.le_of_ble_eq_true rfl) ?_
  intro p e s m args below meth c A ls hx hb hr hml hts hown hlocks hK hA hP hD hS hl
  have hl : lv_has ls 3 [(0, .ref (b 0)), (1, .int p1), (2, .int p2)] := hl
  have hP : va_P D vwCl (mdW k b M) s.heap := hP
  have w_0 := hts (.fieldLink RX2 16 "EffectTrainModel" "now" "[I") (by decide +kernel)
  have w_1 : ∀ w ∈ wsX20, w ∈ wsX2_effect := by decide +kernel
  have w_2 := hts (.constantLong RX2 109 (9)) (by decide +kernel)
  unfold f_X2_effect at h
  have hC_30 : ∀ (t0_30 : Int32) (H : Heap) (locs : List Loc) (ls : Array Slot), va_P D vwCl (mdW k b M) H → va_D A (mdW k b M) → va_S A s.heap H locs → lv_has ls 3 [(0, .ref (b 0)), (1, .int p1), (2, .int p2)] → f_X2_effect_30 M p1 p2 t0_30 = some (o0, o1) → W p l e ({ frames := 3, cells := 0, slots := 0, locals := 64 } : Room) s m args below meth c H locs 0 0 (MQ below (Qk D A (some (.int o0)) (mdW k b o1)) args s 0 0 A) (F0 m 30 ls [.int t0_30, .ref (b 0)]) := by
    intro t0_30 H locs ls hP hD hS hl h
    unfold f_X2_effect_30 at h
    obtain ⟨⟨v_1, q_2⟩, hv_3, h⟩ := bd_l h
    refine Ck_V (As := [.int t0_30]) (rest := []) (wc := mdW k b M) (wc' := mdW k b q_2) (w0' := mdW k b q_2) ⟨hx, hb, hml, hown, hts⟩ (c_X2_refused l D k b M t0_30 v_1 q_2 hv_3) (cwV 1 hts gX2_effect_X2_refused rfl rfl rfl (by decide +kernel) ⟨Nat.le_of_ble_eq_true rfl, Nat.le_of_ble_eq_true rfl⟩) hK hP hD hS hA (q0 := 0) (ci := 2) rfl rfl [0, 1, 2, 3, 4, 5, 6, 7, 8, 9] rfl (by decide) rfl rfl rfl hl.1 rfl (Nat.le_of_ble_eq_true rfl) dX2_effect_30 ⟨Nat.le_of_ble_eq_true rfl, Nat.le_of_ble_eq_true rfl⟩ (fun H locs hP hD hS => ?_)
    refine W.eq (g2 := F0 m 33 ls [.int v_1]) rfl ?_
    refine lv_if_eq (tgt := 38) hx hb dX2_effect_33 (by decide) (fun c_4 => ?_) (fun c_4 => ?_)
    · have h := it_l c_4 h
      refine lv_aload_n hx hb dX2_effect_38 rfl (lv_at hl 0 rfl) ?_
      refine va_get (D := D) (ci := 2) (v := .ref (b 3)) (C := RX2) (T := TX2) (N := 15) hx hb hts w_1 hown hK hP 0 rfl rfl 7 (by decide) w_0 (fun _ h9 => h9) rfl dX2_effect_39 ?_
      refine lv_iload_n hx hb dX2_effect_42 rfl (lv_at hl 1 rfl) ?_
      refine lv_iload_n hx hb dX2_effect_43 rfl (lv_at hl 2 rfl) ?_
      obtain ⟨v_5, hv_6, h⟩ := bd_l h
      refine Ck_S (As := [.ref (b 3), .int p1, .int p2]) (rest := []) (wc := [(b 3, .inl (k 0, 64, .inl (m_now q_2)))]) (wc' := [(b 3, .inl (k 0, 64, .inl (m_now q_2)))]) (w0' := mdW k b q_2) ⟨hx, hb, hml, hown, hts⟩ (c_X2_detail l D k (b 3) (m_now q_2) p1 p2 v_5 hv_6) (va_cwS 3 hts gX2_effect_X2_detail rfl rfl rfl (by decide +kernel) ⟨Nat.le_of_ble_eq_true rfl, Nat.le_of_ble_eq_true rfl⟩) hK hP hD hS hA [3] rfl (by decide) rfl rfl rfl hl.1 rfl (Nat.le_of_ble_eq_true rfl) dX2_effect_44 ⟨Nat.le_of_ble_eq_true rfl, Nat.le_of_ble_eq_true rfl⟩ (fun H locs hP hD hS => ?_)
      refine W.eq (g2 := F0 m 47 ls [.int v_5]) rfl ?_
      cases h
      exact Ck_iret hx hb hr hP hD hS dX2_effect_47 hlocks
    · have h := it_r c_4 h
      refine lv_iconst (v := 0) hx hb dX2_effect_36 (by decide) ?_
      cases h
      exact Ck_iret hx hb hr hP hD hS dX2_effect_37 hlocks
  refine lv_aload_n hx hb dX2_effect_0 rfl (lv_at hl 0 rfl) ?_
  refine lv_aload_n hx hb dX2_effect_1 rfl (lv_at hl 0 rfl) ?_
  refine lv_iload_n hx hb dX2_effect_2 rfl (lv_at hl 1 rfl) ?_
  obtain ⟨v_7, hv_8, h⟩ := bd_l h
  refine Ck_V (As := [.int p1]) (rest := [.ref (b 0)]) (wc := [mdO b M]) (wc' := [mdO b M]) (w0' := mdW k b M) ⟨hx, hb, hml, hown, hts⟩ (c_X2_isEffect l D k b M p1 v_7 hv_8) (cwV 1 hts gX2_effect_X2_isEffect rfl rfl rfl (by decide +kernel) ⟨Nat.le_of_ble_eq_true rfl, Nat.le_of_ble_eq_true rfl⟩) hK hP hD hS hA (q0 := 0) (ci := 2) rfl rfl [0] rfl (by decide) rfl rfl rfl hl.1 rfl (Nat.le_of_ble_eq_true rfl) dX2_effect_3 ⟨Nat.le_of_ble_eq_true rfl, Nat.le_of_ble_eq_true rfl⟩ (fun H locs hP hD hS => ?_)
  refine W.eq (g2 := F0 m 6 ls [.int v_7, .ref (b 0)]) rfl ?_
  refine lv_if_ne (tgt := 13) hx hb dX2_effect_6 (by decide) (fun c_9 => ?_) (fun c_9 => ?_)
  · have h := it_r c_9 h
    refine lv_iload_n hx hb dX2_effect_13 rfl (lv_at hl 2 rfl) ?_
    refine lv_i2l hx hb dX2_effect_14 rfl ?_
    refine lv_lconst (v := 0) hx hb dX2_effect_15 (by decide) ?_
    refine lv_ldc2 (v := 9) hx hb hown w_2 dX2_effect_16 ?_
    obtain ⟨v_10, hv_11, h⟩ := bd_l h
    refine Ck_S (As := [.long (p2.toInt64), .long 0, .long 9]) (rest := [.ref (b 0)]) (wc := ([] : va_W)) (wc' := ([] : va_W)) (w0' := mdW k b M) ⟨hx, hb, hml, hown, hts⟩ (c_X2_in l D k  (p2.toInt64) 0 9 v_10 hv_11) (va_cwS 3 hts gX2_effect_X2_in rfl rfl rfl (by decide +kernel) ⟨Nat.le_of_ble_eq_true rfl, Nat.le_of_ble_eq_true rfl⟩) hK hP hD hS hA [] rfl (by decide) rfl rfl rfl hl.1 rfl (Nat.le_of_ble_eq_true rfl) dX2_effect_19 ⟨Nat.le_of_ble_eq_true rfl, Nat.le_of_ble_eq_true rfl⟩ (fun H locs hP hD hS => ?_)
    refine W.eq (g2 := F0 m 22 ls [.int v_10, .ref (b 0)]) rfl ?_
    refine lv_if_ne (tgt := 29) hx hb dX2_effect_22 (by decide) (fun c_12 => ?_) (fun c_12 => ?_)
    · have h := it_r c_12 h
      refine lv_iconst (v := 0) hx hb dX2_effect_29 (by decide) ?_
      exact hC_30 0 _ _ _ hP hD hS (lv_sub hl [0, 1, 2] rfl) h
    · have h := it_l c_12 h
      refine lv_iconst (v := 2) hx hb dX2_effect_25 (by decide) ?_
      refine lv_goto (tgt := 30) hx hb dX2_effect_26 (by decide) ?_
      exact hC_30 2 _ _ _ hP hD hS (lv_sub hl [0, 1, 2] rfl) h
  · have h := it_l c_9 h
    refine lv_iconst (v := 1) hx hb dX2_effect_9 (by decide) ?_
    refine lv_goto (tgt := 30) hx hb dX2_effect_10 (by decide) ?_
    exact hC_30 1 _ _ _ hP hD hS (lv_sub hl [0, 1, 2] rfl) h
def f_X2_neighbor_14 (M : MdV) (p1 : Int32) (p2 : Int32) (t0_14 : Int32) : Option (Int32 × MdV) := bd (f_X2_refused M t0_14) fun ⟨v_1, q_2⟩ => if v_1 = 0 then (if p2 = 0 then (bd (f_X2_before (m_now q_2) p1) fun v_6 => some (v_6, q_2)) else (bd (f_X2_behind q_2 (m_now q_2) p1) fun v_8 => some (v_8, q_2))) else (some (0, q_2))
def f_X2_neighbor (M : MdV) (p1 : Int32) (p2 : Int32) : Option (Int32 × MdV) := bd (f_X2_isEffect M p1) fun v_10 => if v_10 = 0 then (f_X2_neighbor_14 M p1 p2 1) else (f_X2_neighbor_14 M p1 p2 0)
set_option maxRecDepth 100000 in
set_option maxHeartbeats 4000000 in
theorem c_X2_neighbor (l : Launch) (D : va_G) (k : Nat → ClassId) (b : Nat → Nat) (M : MdV) (p1 : Int32) (p2 : Int32) (o0 : Int32) (o1 : MdV) (h : f_X2_neighbor M p1 p2 = some (o0, o1)) : Ck l D (tyK k) yX2_neighbor wsX2_neighbor ({ frames := 2, cells := 0, slots := 0, locals := 46 } : Room) [.ref (b 0), .int p1, .int p2] (mdW k b M) (some (.int o0)) (mdW k b o1) := by
  refine Ck_of (cc := cX2_neighbor) (maxL := 3) (ret := (some .int)) (by decide) rfl (Nat.le_of_ble_eq_true rfl) ?_
  intro p e s m args below meth c A ls hx hb hr hml hts hown hlocks hK hA hP hD hS hl
  have hl : lv_has ls 3 [(0, .ref (b 0)), (1, .int p1), (2, .int p2)] := hl
  have hP : va_P D vwCl (mdW k b M) s.heap := hP
  have w_0 := hts (.fieldLink RX2 16 "EffectTrainModel" "now" "[I") (by decide +kernel)
  have w_1 : ∀ w ∈ wsX20, w ∈ wsX2_neighbor := by decide +kernel
  unfold f_X2_neighbor at h
  have hC_14 : ∀ (t0_14 : Int32) (H : Heap) (locs : List Loc) (ls : Array Slot), va_P D vwCl (mdW k b M) H → va_D A (mdW k b M) → va_S A s.heap H locs → lv_has ls 3 [(0, .ref (b 0)), (1, .int p1), (2, .int p2)] → f_X2_neighbor_14 M p1 p2 t0_14 = some (o0, o1) → W p l e ({ frames := 2, cells := 0, slots := 0, locals := 46 } : Room) s m args below meth c H locs 0 0 (MQ below (Qk D A (some (.int o0)) (mdW k b o1)) args s 0 0 A) (F0 m 14 ls [.int t0_14, .ref (b 0)]) := by
    intro t0_14 H locs ls hP hD hS hl h
    unfold f_X2_neighbor_14 at h
    obtain ⟨⟨v_1, q_2⟩, hv_3, h⟩ := bd_l h
    refine Ck_V (As := [.int t0_14]) (rest := []) (wc := mdW k b M) (wc' := mdW k b q_2) (w0' := mdW k b q_2) ⟨hx, hb, hml, hown, hts⟩ (c_X2_refused l D k b M t0_14 v_1 q_2 hv_3) (cwV 1 hts gX2_neighbor_X2_refused rfl rfl rfl (by decide +kernel) ⟨Nat.le_of_ble_eq_true rfl, Nat.le_of_ble_eq_true rfl⟩) hK hP hD hS hA (q0 := 0) (ci := 2) rfl rfl [0, 1, 2, 3, 4, 5, 6, 7, 8, 9] rfl (by decide) rfl rfl rfl hl.1 rfl (Nat.le_of_ble_eq_true rfl) dX2_neighbor_14 ⟨Nat.le_of_ble_eq_true rfl, Nat.le_of_ble_eq_true rfl⟩ (fun H locs hP hD hS => ?_)
    refine W.eq (g2 := F0 m 17 ls [.int v_1]) rfl ?_
    refine lv_if_eq (tgt := 22) hx hb dX2_neighbor_17 (by decide) (fun c_4 => ?_) (fun c_4 => ?_)
    · have h := it_l c_4 h
      refine lv_iload_n hx hb dX2_neighbor_22 rfl (lv_at hl 2 rfl) ?_
      refine lv_if_eq (tgt := 38) hx hb dX2_neighbor_23 (by decide) (fun c_5 => ?_) (fun c_5 => ?_)
      · have h := it_l c_5 h
        refine lv_aload_n hx hb dX2_neighbor_38 rfl (lv_at hl 0 rfl) ?_
        refine va_get (D := D) (ci := 2) (v := .ref (b 3)) (C := RX2) (T := TX2) (N := 15) hx hb hts w_1 hown hK hP 0 rfl rfl 7 (by decide) w_0 (fun _ h9 => h9) rfl dX2_neighbor_39 ?_
        refine lv_iload_n hx hb dX2_neighbor_42 rfl (lv_at hl 1 rfl) ?_
        obtain ⟨v_6, hv_7, h⟩ := bd_l h
        refine Ck_S (As := [.ref (b 3), .int p1]) (rest := []) (wc := [(b 3, .inl (k 0, 64, .inl (m_now q_2)))]) (wc' := [(b 3, .inl (k 0, 64, .inl (m_now q_2)))]) (w0' := mdW k b q_2) ⟨hx, hb, hml, hown, hts⟩ (c_X2_before l D k (b 3) (m_now q_2) p1 v_6 hv_7) (va_cwS 2 hts gX2_neighbor_X2_before rfl rfl rfl (by decide +kernel) ⟨Nat.le_of_ble_eq_true rfl, Nat.le_of_ble_eq_true rfl⟩) hK hP hD hS hA [3] rfl (by decide) rfl rfl rfl hl.1 rfl (Nat.le_of_ble_eq_true rfl) dX2_neighbor_43 ⟨Nat.le_of_ble_eq_true rfl, Nat.le_of_ble_eq_true rfl⟩ (fun H locs hP hD hS => ?_)
        refine W.eq (g2 := F0 m 46 ls [.int v_6]) rfl ?_
        cases h
        exact Ck_iret hx hb hr hP hD hS dX2_neighbor_46 hlocks
      · have h := it_r c_5 h
        refine lv_aload_n hx hb dX2_neighbor_26 rfl (lv_at hl 0 rfl) ?_
        refine lv_aload_n hx hb dX2_neighbor_27 rfl (lv_at hl 0 rfl) ?_
        refine va_get (D := D) (ci := 2) (v := .ref (b 3)) (C := RX2) (T := TX2) (N := 15) hx hb hts w_1 hown hK hP 0 rfl rfl 7 (by decide) w_0 (fun _ h9 => h9) rfl dX2_neighbor_28 ?_
        refine lv_iload_n hx hb dX2_neighbor_31 rfl (lv_at hl 1 rfl) ?_
        obtain ⟨v_8, hv_9, h⟩ := bd_l h
        refine Ck_V (As := [.ref (b 3), .int p1]) (rest := []) (wc := [mdO b q_2] ++ [(b 3, .inl (k 0, 64, .inl (m_now q_2)))]) (wc' := [mdO b q_2] ++ [(b 3, .inl (k 0, 64, .inl (m_now q_2)))]) (w0' := mdW k b q_2) ⟨hx, hb, hml, hown, hts⟩ (c_X2_behind l D k b (b 3) q_2 (m_now q_2) p1 v_8 hv_9) (cwV 2 hts gX2_neighbor_X2_behind rfl rfl rfl (by decide +kernel) ⟨Nat.le_of_ble_eq_true rfl, Nat.le_of_ble_eq_true rfl⟩) hK hP hD hS hA (q0 := 0) (ci := 2) rfl rfl [0, 3] rfl (by decide) rfl rfl rfl hl.1 rfl (Nat.le_of_ble_eq_true rfl) dX2_neighbor_32 ⟨Nat.le_of_ble_eq_true rfl, Nat.le_of_ble_eq_true rfl⟩ (fun H locs hP hD hS => ?_)
        refine W.eq (g2 := F0 m 35 ls [.int v_8]) rfl ?_
        refine lv_goto (tgt := 46) hx hb dX2_neighbor_35 (by decide) ?_
        cases h
        exact Ck_iret hx hb hr hP hD hS dX2_neighbor_46 hlocks
    · have h := it_r c_4 h
      refine lv_iconst (v := 0) hx hb dX2_neighbor_20 (by decide) ?_
      cases h
      exact Ck_iret hx hb hr hP hD hS dX2_neighbor_21 hlocks
  refine lv_aload_n hx hb dX2_neighbor_0 rfl (lv_at hl 0 rfl) ?_
  refine lv_aload_n hx hb dX2_neighbor_1 rfl (lv_at hl 0 rfl) ?_
  refine lv_iload_n hx hb dX2_neighbor_2 rfl (lv_at hl 1 rfl) ?_
  obtain ⟨v_10, hv_11, h⟩ := bd_l h
  refine Ck_V (As := [.int p1]) (rest := [.ref (b 0)]) (wc := [mdO b M]) (wc' := [mdO b M]) (w0' := mdW k b M) ⟨hx, hb, hml, hown, hts⟩ (c_X2_isEffect l D k b M p1 v_10 hv_11) (cwV 1 hts gX2_neighbor_X2_isEffect rfl rfl rfl (by decide +kernel) ⟨Nat.le_of_ble_eq_true rfl, Nat.le_of_ble_eq_true rfl⟩) hK hP hD hS hA (q0 := 0) (ci := 2) rfl rfl [0] rfl (by decide) rfl rfl rfl hl.1 rfl (Nat.le_of_ble_eq_true rfl) dX2_neighbor_3 ⟨Nat.le_of_ble_eq_true rfl, Nat.le_of_ble_eq_true rfl⟩ (fun H locs hP hD hS => ?_)
  refine W.eq (g2 := F0 m 6 ls [.int v_10, .ref (b 0)]) rfl ?_
  refine lv_if_eq (tgt := 13) hx hb dX2_neighbor_6 (by decide) (fun c_12 => ?_) (fun c_12 => ?_)
  · have h := it_l c_12 h
    refine lv_iconst (v := 1) hx hb dX2_neighbor_13 (by decide) ?_
    exact hC_14 1 _ _ _ hP hD hS (lv_sub hl [0, 1, 2] rfl) h
  · have h := it_r c_12 h
    refine lv_iconst (v := 0) hx hb dX2_neighbor_9 (by decide) ?_
    refine lv_goto (tgt := 14) hx hb dX2_neighbor_10 (by decide) ?_
    exact hC_14 0 _ _ _ hP hD hS (lv_sub hl [0, 1, 2] rfl) h
def f_X2_economy (M : MdV) : Option (UInt32 × MdV) := nm (mu_ref M 0) fun q_1 => if ((m_now q_1) 54) = 0 then (some (FP.fconst0, q_1)) else (gb (nn32 (FP.fdiv (FP.i2f ((m_now q_1) 55)) (FP.i2f ((m_now q_1) 54)))) <| some ((FP.fdiv (FP.i2f ((m_now q_1) 55)) (FP.i2f ((m_now q_1) 54))), q_1))
set_option maxRecDepth 100000 in
set_option maxHeartbeats 4000000 in
theorem c_X2_economy (l : Launch) (D : va_G) (k : Nat → ClassId) (b : Nat → Nat) (M : MdV) (o0 : UInt32) (o1 : MdV) (h : f_X2_economy M = some (o0, o1)) : Ck l D (tyK k) yX2_economy wsX2_economy ({ frames := 0, cells := 0, slots := 0, locals := 0 } : Room) [.ref (b 0)] (mdW k b M) (some (.float o0)) (mdW k b o1) := by
  refine Ck_of (cc := cX2_economy) (maxL := 1) (ret := (some .float)) (by decide) rfl (Nat.le_of_ble_eq_true rfl) ?_
  intro p e s m args below meth c A ls hx hb hr hml hts hown hlocks hK hA hP hD hS hl
  have hl : lv_has ls 1 [(0, .ref (b 0))] := hl
  have hP : va_P D vwCl (mdW k b M) s.heap := hP
  have w_0 := hts (.fieldLink RX2 42 "EffectTrainModel" "refusal" "I") (by decide +kernel)
  have w_1 : ∀ w ∈ wsX20, w ∈ wsX2_economy := by decide +kernel
  have w_2 := hts (.fieldLink RX2 16 "EffectTrainModel" "now" "[I") (by decide +kernel)
  unfold f_X2_economy at h
  refine lv_aload_n hx hb dX2_economy_0 rfl (lv_at hl 0 rfl) ?_
  refine lv_iconst (v := 0) hx hb dX2_economy_1 (by decide) ?_
  refine va_put (D := D) (ci := 2) (v := .int 0) (ty := .int) (C := RX2) (T := TX2) (N := 15) hx hb hts w_1 tyX2 tyX2_ok nmX2 hown hK hP hD hS 0 rfl rfl 0 (by decide) w_0 (fun _ h9 => h9) rfl (by decide +kernel) rfl rfl (Nat.le_of_ble_eq_true rfl) dX2_economy_2 (fun H locs hP hD hS => ?_)
  obtain ⟨q_1, eq_1⟩ : ∃ y : MdV, y = mu_ref M 0 := ⟨_, rfl⟩
  have hP : va_P D vwCl (mdW k b q_1) H := by rw [eq_1, ← md_set_ref k b M _]; exact hP
  have hD : va_D A (mdW k b q_1) := by rw [eq_1, ← md_set_ref k b M _]; exact hD
  have h := nm_l h eq_1
  refine lv_aload_n hx hb dX2_economy_5 rfl (lv_at hl 0 rfl) ?_
  refine va_get (D := D) (ci := 2) (v := .ref (b 3)) (C := RX2) (T := TX2) (N := 15) hx hb hts w_1 hown hK hP 0 rfl rfl 7 (by decide) w_2 (fun _ h9 => h9) rfl dX2_economy_6 ?_
  refine lv_bipush (v := 54) hx hb dX2_economy_9 (by decide) ?_
  refine va_iald hx hb hK hP 3 0 rfl rfl (inb_vp (by decide)) dX2_economy_11 ?_
  refine W.eq (g2 := F0 m 12 ls [.int ((m_now q_1) 54)]) rfl ?_
  refine lv_if_ne (tgt := 19) hx hb dX2_economy_12 (by decide) (fun c_2 => ?_) (fun c_2 => ?_)
  · have h := it_r c_2 h
    refine lv_aload_n hx hb dX2_economy_19 rfl (lv_at hl 0 rfl) ?_
    refine va_get (D := D) (ci := 2) (v := .ref (b 3)) (C := RX2) (T := TX2) (N := 15) hx hb hts w_1 hown hK hP 0 rfl rfl 7 (by decide) w_2 (fun _ h9 => h9) rfl dX2_economy_20 ?_
    refine lv_bipush (v := 55) hx hb dX2_economy_23 (by decide) ?_
    refine va_iald hx hb hK hP 3 0 rfl rfl (inb_vp (by decide)) dX2_economy_25 ?_
    refine W.eq (g2 := F0 m 26 ls [.int ((m_now q_1) 55)]) rfl ?_
    refine lv_i2f hx hb dX2_economy_26 ?_
    refine lv_aload_n hx hb dX2_economy_27 rfl (lv_at hl 0 rfl) ?_
    refine va_get (D := D) (ci := 2) (v := .ref (b 3)) (C := RX2) (T := TX2) (N := 15) hx hb hts w_1 hown hK hP 0 rfl rfl 7 (by decide) w_2 (fun _ h9 => h9) rfl dX2_economy_28 ?_
    refine lv_bipush (v := 54) hx hb dX2_economy_31 (by decide) ?_
    refine va_iald hx hb hK hP 3 0 rfl rfl (inb_vp (by decide)) dX2_economy_33 ?_
    refine W.eq (g2 := F0 m 34 ls [.int ((m_now q_1) 54), .float (FP.i2f ((m_now q_1) 55))]) rfl ?_
    refine lv_i2f hx hb dX2_economy_34 ?_
    have g_3 := nn32_l (gb_l h)
    have h := gb_r h
    refine lv_fdiv hx hb dX2_economy_35 g_3 ?_
    cases h
    exact Ck_fret hx hb hr hP hD hS dX2_economy_36 hlocks
  · have h := it_l c_2 h
    refine lv_fconst0 hx hb dX2_economy_15 ?_
    refine lv_goto (tgt := 36) hx hb dX2_economy_16 (by decide) ?_
    cases h
    exact Ck_fret hx hb hr hP hD hS dX2_economy_36 hlocks
def f_X2_share_14 (M : MdV) (p1 : Int32) (t0_14 : Int32) : Option (UInt32 × MdV) := bd (f_X2_refused M t0_14) fun ⟨v_1, q_2⟩ => if v_1 = 0 then (bd (f_X2_amount (m_now q_2) p1) fun v_5 => if v_5 = 0 then (some (FP.fconst0, q_2)) else (gb (inb (12 + p1) 64) <| bd (f_X2_amount (m_now q_2) p1) fun v_9 => gb (nn32 (FP.fdiv (FP.i2f ((m_now q_2) (12 + p1).toNatClampNeg)) (FP.i2f v_9))) <| some ((FP.fdiv (FP.i2f ((m_now q_2) (12 + p1).toNatClampNeg)) (FP.i2f v_9)), q_2))) else (some (FP.fconst0, q_2))
def f_X2_share (M : MdV) (p1 : Int32) : Option (UInt32 × MdV) := bd (f_X2_isEffect M p1) fun v_12 => if v_12 = 0 then (f_X2_share_14 M p1 1) else (f_X2_share_14 M p1 0)
set_option maxRecDepth 100000 in
set_option maxHeartbeats 4000000 in
theorem c_X2_share (l : Launch) (D : va_G) (k : Nat → ClassId) (b : Nat → Nat) (M : MdV) (p1 : Int32) (o0 : UInt32) (o1 : MdV) (h : f_X2_share M p1 = some (o0, o1)) : Ck l D (tyK k) yX2_share wsX2_share ({ frames := 2, cells := 0, slots := 0, locals := 46 } : Room) [.ref (b 0), .int p1] (mdW k b M) (some (.float o0)) (mdW k b o1) := by
  refine Ck_of (cc := cX2_share) (maxL := 2) (ret := (some .float)) (by decide) rfl (Nat.le_of_ble_eq_true rfl) ?_
  intro p e s m args below meth c A ls hx hb hr hml hts hown hlocks hK hA hP hD hS hl
  have hl : lv_has ls 2 [(0, .ref (b 0)), (1, .int p1)] := hl
  have hP : va_P D vwCl (mdW k b M) s.heap := hP
  have w_0 := hts (.fieldLink RX2 16 "EffectTrainModel" "now" "[I") (by decide +kernel)
  have w_1 : ∀ w ∈ wsX20, w ∈ wsX2_share := by decide +kernel
  unfold f_X2_share at h
  have hC_14 : ∀ (t0_14 : Int32) (H : Heap) (locs : List Loc) (ls : Array Slot), va_P D vwCl (mdW k b M) H → va_D A (mdW k b M) → va_S A s.heap H locs → lv_has ls 2 [(0, .ref (b 0)), (1, .int p1)] → f_X2_share_14 M p1 t0_14 = some (o0, o1) → W p l e ({ frames := 2, cells := 0, slots := 0, locals := 46 } : Room) s m args below meth c H locs 0 0 (MQ below (Qk D A (some (.float o0)) (mdW k b o1)) args s 0 0 A) (F0 m 14 ls [.int t0_14, .ref (b 0)]) := by
    intro t0_14 H locs ls hP hD hS hl h
    unfold f_X2_share_14 at h
    obtain ⟨⟨v_1, q_2⟩, hv_3, h⟩ := bd_l h
    refine Ck_V (As := [.int t0_14]) (rest := []) (wc := mdW k b M) (wc' := mdW k b q_2) (w0' := mdW k b q_2) ⟨hx, hb, hml, hown, hts⟩ (c_X2_refused l D k b M t0_14 v_1 q_2 hv_3) (cwV 1 hts gX2_share_X2_refused rfl rfl rfl (by decide +kernel) ⟨Nat.le_of_ble_eq_true rfl, Nat.le_of_ble_eq_true rfl⟩) hK hP hD hS hA (q0 := 0) (ci := 2) rfl rfl [0, 1, 2, 3, 4, 5, 6, 7, 8, 9] rfl (by decide) rfl rfl rfl hl.1 rfl (Nat.le_of_ble_eq_true rfl) dX2_share_14 ⟨Nat.le_of_ble_eq_true rfl, Nat.le_of_ble_eq_true rfl⟩ (fun H locs hP hD hS => ?_)
    refine W.eq (g2 := F0 m 17 ls [.int v_1]) rfl ?_
    refine lv_if_eq (tgt := 22) hx hb dX2_share_17 (by decide) (fun c_4 => ?_) (fun c_4 => ?_)
    · have h := it_l c_4 h
      refine lv_aload_n hx hb dX2_share_22 rfl (lv_at hl 0 rfl) ?_
      refine va_get (D := D) (ci := 2) (v := .ref (b 3)) (C := RX2) (T := TX2) (N := 15) hx hb hts w_1 hown hK hP 0 rfl rfl 7 (by decide) w_0 (fun _ h9 => h9) rfl dX2_share_23 ?_
      refine lv_iload_n hx hb dX2_share_26 rfl (lv_at hl 1 rfl) ?_
      obtain ⟨v_5, hv_6, h⟩ := bd_l h
      refine Ck_S (As := [.ref (b 3), .int p1]) (rest := []) (wc := [(b 3, .inl (k 0, 64, .inl (m_now q_2)))]) (wc' := [(b 3, .inl (k 0, 64, .inl (m_now q_2)))]) (w0' := mdW k b q_2) ⟨hx, hb, hml, hown, hts⟩ (c_X2_amount l D k (b 3) (m_now q_2) p1 v_5 hv_6) (va_cwS 2 hts gX2_share_X2_amount rfl rfl rfl (by decide +kernel) ⟨Nat.le_of_ble_eq_true rfl, Nat.le_of_ble_eq_true rfl⟩) hK hP hD hS hA [3] rfl (by decide) rfl rfl rfl hl.1 rfl (Nat.le_of_ble_eq_true rfl) dX2_share_27 ⟨Nat.le_of_ble_eq_true rfl, Nat.le_of_ble_eq_true rfl⟩ (fun H locs hP hD hS => ?_)
      refine W.eq (g2 := F0 m 30 ls [.int v_5]) rfl ?_
      refine lv_if_ne (tgt := 37) hx hb dX2_share_30 (by decide) (fun c_7 => ?_) (fun c_7 => ?_)
      · have h := it_r c_7 h
        refine lv_aload_n hx hb dX2_share_37 rfl (lv_at hl 0 rfl) ?_
        refine va_get (D := D) (ci := 2) (v := .ref (b 3)) (C := RX2) (T := TX2) (N := 15) hx hb hts w_1 hown hK hP 0 rfl rfl 7 (by decide) w_0 (fun _ h9 => h9) rfl dX2_share_38 ?_
        refine lv_bipush (v := 12) hx hb dX2_share_41 (by decide) ?_
        refine lv_iload_n hx hb dX2_share_43 rfl (lv_at hl 1 rfl) ?_
        refine lv_iadd hx hb dX2_share_44 ?_
        have g_8 := inb_vp (gb_l h)
        have h := gb_r h
        refine va_iald hx hb hK hP 3 0 rfl rfl g_8 dX2_share_45 ?_
        refine lv_i2f hx hb dX2_share_46 ?_
        refine lv_aload_n hx hb dX2_share_47 rfl (lv_at hl 0 rfl) ?_
        refine va_get (D := D) (ci := 2) (v := .ref (b 3)) (C := RX2) (T := TX2) (N := 15) hx hb hts w_1 hown hK hP 0 rfl rfl 7 (by decide) w_0 (fun _ h9 => h9) rfl dX2_share_48 ?_
        refine lv_iload_n hx hb dX2_share_51 rfl (lv_at hl 1 rfl) ?_
        obtain ⟨v_9, hv_10, h⟩ := bd_l h
        refine Ck_S (As := [.ref (b 3), .int p1]) (rest := [.float (FP.i2f ((m_now q_2) (12 + p1).toNatClampNeg))]) (wc := [(b 3, .inl (k 0, 64, .inl (m_now q_2)))]) (wc' := [(b 3, .inl (k 0, 64, .inl (m_now q_2)))]) (w0' := mdW k b q_2) ⟨hx, hb, hml, hown, hts⟩ (c_X2_amount l D k (b 3) (m_now q_2) p1 v_9 hv_10) (va_cwS 2 hts gX2_share_X2_amount rfl rfl rfl (by decide +kernel) ⟨Nat.le_of_ble_eq_true rfl, Nat.le_of_ble_eq_true rfl⟩) hK hP hD hS hA [3] rfl (by decide) rfl rfl rfl hl.1 rfl (Nat.le_of_ble_eq_true rfl) dX2_share_52 ⟨Nat.le_of_ble_eq_true rfl, Nat.le_of_ble_eq_true rfl⟩ (fun H locs hP hD hS => ?_)
        refine W.eq (g2 := F0 m 55 ls [.int v_9, .float (FP.i2f ((m_now q_2) (12 + p1).toNatClampNeg))]) rfl ?_
        refine lv_i2f hx hb dX2_share_55 ?_
        have g_11 := nn32_l (gb_l h)
        have h := gb_r h
        refine lv_fdiv hx hb dX2_share_56 g_11 ?_
        cases h
        exact Ck_fret hx hb hr hP hD hS dX2_share_57 hlocks
      · have h := it_l c_7 h
        refine lv_fconst0 hx hb dX2_share_33 ?_
        refine lv_goto (tgt := 57) hx hb dX2_share_34 (by decide) ?_
        cases h
        exact Ck_fret hx hb hr hP hD hS dX2_share_57 hlocks
    · have h := it_r c_4 h
      refine lv_fconst0 hx hb dX2_share_20 ?_
      cases h
      exact Ck_fret hx hb hr hP hD hS dX2_share_21 hlocks
  refine lv_aload_n hx hb dX2_share_0 rfl (lv_at hl 0 rfl) ?_
  refine lv_aload_n hx hb dX2_share_1 rfl (lv_at hl 0 rfl) ?_
  refine lv_iload_n hx hb dX2_share_2 rfl (lv_at hl 1 rfl) ?_
  obtain ⟨v_12, hv_13, h⟩ := bd_l h
  refine Ck_V (As := [.int p1]) (rest := [.ref (b 0)]) (wc := [mdO b M]) (wc' := [mdO b M]) (w0' := mdW k b M) ⟨hx, hb, hml, hown, hts⟩ (c_X2_isEffect l D k b M p1 v_12 hv_13) (cwV 1 hts gX2_share_X2_isEffect rfl rfl rfl (by decide +kernel) ⟨Nat.le_of_ble_eq_true rfl, Nat.le_of_ble_eq_true rfl⟩) hK hP hD hS hA (q0 := 0) (ci := 2) rfl rfl [0] rfl (by decide) rfl rfl rfl hl.1 rfl (Nat.le_of_ble_eq_true rfl) dX2_share_3 ⟨Nat.le_of_ble_eq_true rfl, Nat.le_of_ble_eq_true rfl⟩ (fun H locs hP hD hS => ?_)
  refine W.eq (g2 := F0 m 6 ls [.int v_12, .ref (b 0)]) rfl ?_
  refine lv_if_eq (tgt := 13) hx hb dX2_share_6 (by decide) (fun c_14 => ?_) (fun c_14 => ?_)
  · have h := it_l c_14 h
    refine lv_iconst (v := 1) hx hb dX2_share_13 (by decide) ?_
    exact hC_14 1 _ _ _ hP hD hS (lv_sub hl [0, 1] rfl) h
  · have h := it_r c_14 h
    refine lv_iconst (v := 0) hx hb dX2_share_9 (by decide) ?_
    refine lv_goto (tgt := 14) hx hb dX2_share_10 (by decide) ?_
    exact hC_14 0 _ _ _ hP hD hS (lv_sub hl [0, 1] rfl) h
def f_X2_tick_18 (M : MdV) (p1 : Int32) (t0_18 : Int32) : Option (Int32 × MdV) := bd (f_X2_refused M t0_18) fun ⟨v_1, q_2⟩ => if v_1 = 0 then (bd (f_X2_note q_2) fun q_5 => bd (f_X2_ticksOn q_5 (m_now q_5) (m_flo q_5) (m_sal q_5) p1) fun ⟨v_7, q_8, q_9, q_10⟩ => nm (mu_sal (mu_flo (mu_now q_5 q_8) q_9) q_10) fun q_12 => some (v_7, q_12)) else (some (0, q_2))
def f_X2_tick (M : MdV) (p1 : Int32) : Option (Int32 × MdV) := bd (f_X2_in (p1.toInt64) 1 99) fun v_13 => if v_13 = 0 then (f_X2_tick_18 M p1 1) else (f_X2_tick_18 M p1 0)
set_option maxRecDepth 100000 in
set_option maxHeartbeats 4000000 in
theorem c_X2_tick (l : Launch) (D : va_G) (k : Nat → ClassId) (b : Nat → Nat) (M : MdV) (p1 : Int32) (o0 : Int32) (o1 : MdV) (h : f_X2_tick M p1 = some (o0, o1)) : Ck l D (tyK k) yX2_tick wsX2_tick ({ frames := 5, cells := 0, slots := 0, locals := 118 } : Room) [.ref (b 0), .int p1] (mdW k b M) (some (.int o0)) (mdW k b o1) := by
  refine Ck_of (cc := cX2_tick) (maxL := 2) (ret := (some .int)) (by decide) rfl (Nat.le_of_ble_eq_true rfl) ?_
  intro p e s m args below meth c A ls hx hb hr hml hts hown hlocks hK hA hP hD hS hl
  have hl : lv_has ls 2 [(0, .ref (b 0)), (1, .int p1)] := hl
  have hP : va_P D vwCl (mdW k b M) s.heap := hP
  have w_0 := hts (.fieldLink RX2 16 "EffectTrainModel" "now" "[I") (by decide +kernel)
  have w_1 : ∀ w ∈ wsX20, w ∈ wsX2_tick := by decide +kernel
  have w_2 := hts (.constantLong RX2 139 (99)) (by decide +kernel)
  unfold f_X2_tick at h
  have hC_18 : ∀ (t0_18 : Int32) (H : Heap) (locs : List Loc) (ls : Array Slot), va_P D vwCl (mdW k b M) H → va_D A (mdW k b M) → va_S A s.heap H locs → lv_has ls 2 [(0, .ref (b 0)), (1, .int p1)] → f_X2_tick_18 M p1 t0_18 = some (o0, o1) → W p l e ({ frames := 5, cells := 0, slots := 0, locals := 118 } : Room) s m args below meth c H locs 0 0 (MQ below (Qk D A (some (.int o0)) (mdW k b o1)) args s 0 0 A) (F0 m 18 ls [.int t0_18, .ref (b 0)]) := by
    intro t0_18 H locs ls hP hD hS hl h
    unfold f_X2_tick_18 at h
    obtain ⟨⟨v_1, q_2⟩, hv_3, h⟩ := bd_l h
    refine Ck_V (As := [.int t0_18]) (rest := []) (wc := mdW k b M) (wc' := mdW k b q_2) (w0' := mdW k b q_2) ⟨hx, hb, hml, hown, hts⟩ (c_X2_refused l D k b M t0_18 v_1 q_2 hv_3) (cwV 1 hts gX2_tick_X2_refused rfl rfl rfl (by decide +kernel) ⟨Nat.le_of_ble_eq_true rfl, Nat.le_of_ble_eq_true rfl⟩) hK hP hD hS hA (q0 := 0) (ci := 2) rfl rfl [0, 1, 2, 3, 4, 5, 6, 7, 8, 9] rfl (by decide) rfl rfl rfl hl.1 rfl (Nat.le_of_ble_eq_true rfl) dX2_tick_18 ⟨Nat.le_of_ble_eq_true rfl, Nat.le_of_ble_eq_true rfl⟩ (fun H locs hP hD hS => ?_)
    refine W.eq (g2 := F0 m 21 ls [.int v_1]) rfl ?_
    refine lv_if_eq (tgt := 26) hx hb dX2_tick_21 (by decide) (fun c_4 => ?_) (fun c_4 => ?_)
    · have h := it_l c_4 h
      refine lv_aload_n hx hb dX2_tick_26 rfl (lv_at hl 0 rfl) ?_
      obtain ⟨q_5, hv_6, h⟩ := bd_l h
      refine Ck_V (As := []) (rest := []) (wc := mdW k b q_2) (wc' := mdW k b q_5) (w0' := mdW k b q_5) ⟨hx, hb, hml, hown, hts⟩ (c_X2_note l D k b q_2 q_5 hv_6) (cwV 0 hts gX2_tick_X2_note rfl rfl rfl (by decide +kernel) ⟨Nat.le_of_ble_eq_true rfl, Nat.le_of_ble_eq_true rfl⟩) hK hP hD hS hA (q0 := 0) (ci := 2) rfl rfl [0, 1, 2, 3, 4, 5, 6, 7, 8, 9] rfl (by decide) rfl rfl rfl hl.1 rfl (Nat.le_of_ble_eq_true rfl) dX2_tick_27 ⟨Nat.le_of_ble_eq_true rfl, Nat.le_of_ble_eq_true rfl⟩ (fun H locs hP hD hS => ?_)
      refine W.eq (g2 := F0 m 30 ls []) rfl ?_
      refine lv_aload_n hx hb dX2_tick_30 rfl (lv_at hl 0 rfl) ?_
      refine lv_aload_n hx hb dX2_tick_31 rfl (lv_at hl 0 rfl) ?_
      refine va_get (D := D) (ci := 2) (v := .ref (b 3)) (C := RX2) (T := TX2) (N := 15) hx hb hts w_1 hown hK hP 0 rfl rfl 7 (by decide) w_0 (fun _ h9 => h9) rfl dX2_tick_32 ?_
      refine lv_iload_n hx hb dX2_tick_35 rfl (lv_at hl 1 rfl) ?_
      obtain ⟨⟨v_7, q_8, q_9, q_10⟩, hv_11, h⟩ := bd_l h
      obtain ⟨q_12, eq_12⟩ : ∃ y : MdV, y = mu_sal (mu_flo (mu_now q_5 q_8) q_9) q_10 := ⟨_, rfl⟩
      have h := nm_l h eq_12
      refine Ck_V (As := [.ref (b 3), .int p1]) (rest := []) (wc := [mdO b q_5] ++ [(b 3, .inl (k 0, 64, .inl (m_now q_5)))] ++ [(b 8, .inl (k 0, 6, .inl (m_flo q_5)))] ++ [(b 9, .inl (k 0, 6, .inl (m_sal q_5)))]) (wc' := [mdO b q_5] ++ [(b 3, .inl (k 0, 64, .inl q_8))] ++ [(b 8, .inl (k 0, 6, .inl q_9))] ++ [(b 9, .inl (k 0, 6, .inl q_10))]) (w0' := mdW k b q_12) ⟨hx, hb, hml, hown, hts⟩ (c_X2_ticksOn l D k b (b 3) q_5 (m_now q_5) (m_flo q_5) (m_sal q_5) p1 v_7 q_8 q_9 q_10 hv_11) (cwV 2 hts gX2_tick_X2_ticksOn rfl rfl rfl (by decide +kernel) ⟨Nat.le_of_ble_eq_true rfl, Nat.le_of_ble_eq_true rfl⟩) hK hP hD hS hA (q0 := 0) (ci := 2) rfl rfl [0, 3, 8, 9] rfl (by decide) rfl (by rw [eq_12]; simp only [va_sets, List.cons_append, List.nil_append, md_set_0, md_set_now, md_set_flo, md_set_sal]) rfl hl.1 rfl (Nat.le_of_ble_eq_true rfl) dX2_tick_36 ⟨Nat.le_of_ble_eq_true rfl, Nat.le_of_ble_eq_true rfl⟩ (fun H locs hP hD hS => ?_)
      refine W.eq (g2 := F0 m 39 ls [.int v_7]) rfl ?_
      cases h
      exact Ck_iret hx hb hr hP hD hS dX2_tick_39 hlocks
    · have h := it_r c_4 h
      refine lv_iconst (v := 0) hx hb dX2_tick_24 (by decide) ?_
      cases h
      exact Ck_iret hx hb hr hP hD hS dX2_tick_25 hlocks
  refine lv_aload_n hx hb dX2_tick_0 rfl (lv_at hl 0 rfl) ?_
  refine lv_iload_n hx hb dX2_tick_1 rfl (lv_at hl 1 rfl) ?_
  refine lv_i2l hx hb dX2_tick_2 rfl ?_
  refine lv_lconst (v := 1) hx hb dX2_tick_3 (by decide) ?_
  refine lv_ldc2 (v := 99) hx hb hown w_2 dX2_tick_4 ?_
  obtain ⟨v_13, hv_14, h⟩ := bd_l h
  refine Ck_S (As := [.long (p1.toInt64), .long 1, .long 99]) (rest := [.ref (b 0)]) (wc := ([] : va_W)) (wc' := ([] : va_W)) (w0' := mdW k b M) ⟨hx, hb, hml, hown, hts⟩ (c_X2_in l D k  (p1.toInt64) 1 99 v_13 hv_14) (va_cwS 3 hts gX2_tick_X2_in rfl rfl rfl (by decide +kernel) ⟨Nat.le_of_ble_eq_true rfl, Nat.le_of_ble_eq_true rfl⟩) hK hP hD hS hA [] rfl (by decide) rfl rfl rfl hl.1 rfl (Nat.le_of_ble_eq_true rfl) dX2_tick_7 ⟨Nat.le_of_ble_eq_true rfl, Nat.le_of_ble_eq_true rfl⟩ (fun H locs hP hD hS => ?_)
  refine W.eq (g2 := F0 m 10 ls [.int v_13, .ref (b 0)]) rfl ?_
  refine lv_if_eq (tgt := 17) hx hb dX2_tick_10 (by decide) (fun c_15 => ?_) (fun c_15 => ?_)
  · have h := it_l c_15 h
    refine lv_iconst (v := 1) hx hb dX2_tick_17 (by decide) ?_
    exact hC_18 1 _ _ _ hP hD hS (lv_sub hl [0, 1] rfl) h
  · have h := it_r c_15 h
    refine lv_iconst (v := 0) hx hb dX2_tick_13 (by decide) ?_
    refine lv_goto (tgt := 18) hx hb dX2_tick_14 (by decide) ?_
    exact hC_18 0 _ _ _ hP hD hS (lv_sub hl [0, 1] rfl) h
def f_X2_set_66 (M : MdV) (p1 : Int32) (p2 : Int32) (t0_66 : Int32) : Option (Int32 × MdV) := bd (f_X2_refused M t0_66) fun ⟨v_1, q_2⟩ => if v_1 = 0 then (bd (f_X2_note q_2) fun q_5 => gb (inb (48 + p1) 64) <| nm ((m_now q_5) (48 + p1).toNatClampNeg) fun v_8 => gb (inb (48 + p1) 64) <| nm (mu_now q_5 (upd (m_now q_5) (48 + p1).toNatClampNeg p2)) fun q_10 => some (v_8, q_10)) else (some (0, q_2))
def f_X2_set_65 (M : MdV) (p1 : Int32) (p2 : Int32) : Option (Int32 × MdV) := f_X2_set_66 M p1 p2 1
def f_X2_set_43 (M : MdV) (p1 : Int32) (p2 : Int32) (t0_43 : Int32) : Option (Int32 × MdV) := bd (f_X2_in (p1.toInt64) 0 4) fun v_11 => if v_11 = 0 then (f_X2_set_65 M p1 p2) else (if t0_43 = 0 then (f_X2_set_65 M p1 p2) else (f_X2_set_66 M p1 p2 0))
def f_X2_set (M : MdV) (p1 : Int32) (p2 : Int32) : Option (Int32 × MdV) := if 2 ≤ p1 then (if 4 ≤ p1 then (bd (f_X2_in (p2.toInt64) 1 20) fun v_17 => f_X2_set_43 M p1 p2 v_17) else (bd (f_X2_in (p2.toInt64) 0 99) fun v_19 => f_X2_set_43 M p1 p2 v_19)) else (bd (f_X2_in (p2.toInt64) 0 999) fun v_21 => f_X2_set_43 M p1 p2 v_21)
set_option maxRecDepth 100000 in
set_option maxHeartbeats 4000000 in
theorem c_X2_set (l : Launch) (D : va_G) (k : Nat → ClassId) (b : Nat → Nat) (M : MdV) (p1 : Int32) (p2 : Int32) (o0 : Int32) (o1 : MdV) (h : f_X2_set M p1 p2 = some (o0, o1)) : Ck l D (tyK k) yX2_set wsX2_set ({ frames := 2, cells := 0, slots := 0, locals := 45 } : Room) [.ref (b 0), .int p1, .int p2] (mdW k b M) (some (.int o0)) (mdW k b o1) := by
  refine Ck_of (cc := cX2_set) (maxL := 5) (ret := (some .int)) (by decide) rfl (Nat.le_of_ble_eq_true rfl) ?_
  intro p e s m args below meth c A ls hx hb hr hml hts hown hlocks hK hA hP hD hS hl
  have hl : lv_has ls 5 [(0, .ref (b 0)), (1, .int p1), (2, .int p2)] := hl
  have hP : va_P D vwCl (mdW k b M) s.heap := hP
  have w_0 := hts (.fieldLink RX2 16 "EffectTrainModel" "now" "[I") (by decide +kernel)
  have w_1 : ∀ w ∈ wsX20, w ∈ wsX2_set := by decide +kernel
  have w_2 := hts (.constantLong RX2 151 (4)) (by decide +kernel)
  have w_3 := hts (.constantLong RX2 149 (20)) (by decide +kernel)
  have w_4 := hts (.constantLong RX2 139 (99)) (by decide +kernel)
  have w_5 := hts (.constantLong RX2 147 (999)) (by decide +kernel)
  unfold f_X2_set at h
  have hC_66 : ∀ (t0_66 : Int32) (H : Heap) (locs : List Loc) (ls : Array Slot), va_P D vwCl (mdW k b M) H → va_D A (mdW k b M) → va_S A s.heap H locs → lv_has ls 5 [(0, .ref (b 0)), (1, .int p1), (2, .int p2)] → f_X2_set_66 M p1 p2 t0_66 = some (o0, o1) → W p l e ({ frames := 2, cells := 0, slots := 0, locals := 45 } : Room) s m args below meth c H locs 0 0 (MQ below (Qk D A (some (.int o0)) (mdW k b o1)) args s 0 0 A) (F0 m 66 ls [.int t0_66, .ref (b 0)]) := by
    intro t0_66 H locs ls hP hD hS hl h
    unfold f_X2_set_66 at h
    obtain ⟨⟨v_1, q_2⟩, hv_3, h⟩ := bd_l h
    refine Ck_V (As := [.int t0_66]) (rest := []) (wc := mdW k b M) (wc' := mdW k b q_2) (w0' := mdW k b q_2) ⟨hx, hb, hml, hown, hts⟩ (c_X2_refused l D k b M t0_66 v_1 q_2 hv_3) (cwV 1 hts gX2_set_X2_refused rfl rfl rfl (by decide +kernel) ⟨Nat.le_of_ble_eq_true rfl, Nat.le_of_ble_eq_true rfl⟩) hK hP hD hS hA (q0 := 0) (ci := 2) rfl rfl [0, 1, 2, 3, 4, 5, 6, 7, 8, 9] rfl (by decide) rfl rfl rfl hl.1 rfl (Nat.le_of_ble_eq_true rfl) dX2_set_66 ⟨Nat.le_of_ble_eq_true rfl, Nat.le_of_ble_eq_true rfl⟩ (fun H locs hP hD hS => ?_)
    refine W.eq (g2 := F0 m 69 ls [.int v_1]) rfl ?_
    refine lv_if_eq (tgt := 74) hx hb dX2_set_69 (by decide) (fun c_4 => ?_) (fun c_4 => ?_)
    · have h := it_l c_4 h
      refine lv_aload_n hx hb dX2_set_74 rfl (lv_at hl 0 rfl) ?_
      obtain ⟨q_5, hv_6, h⟩ := bd_l h
      refine Ck_V (As := []) (rest := []) (wc := mdW k b q_2) (wc' := mdW k b q_5) (w0' := mdW k b q_5) ⟨hx, hb, hml, hown, hts⟩ (c_X2_note l D k b q_2 q_5 hv_6) (cwV 0 hts gX2_set_X2_note rfl rfl rfl (by decide +kernel) ⟨Nat.le_of_ble_eq_true rfl, Nat.le_of_ble_eq_true rfl⟩) hK hP hD hS hA (q0 := 0) (ci := 2) rfl rfl [0, 1, 2, 3, 4, 5, 6, 7, 8, 9] rfl (by decide) rfl rfl rfl hl.1 rfl (Nat.le_of_ble_eq_true rfl) dX2_set_75 ⟨Nat.le_of_ble_eq_true rfl, Nat.le_of_ble_eq_true rfl⟩ (fun H locs hP hD hS => ?_)
      refine W.eq (g2 := F0 m 78 ls []) rfl ?_
      refine lv_aload_n hx hb dX2_set_78 rfl (lv_at hl 0 rfl) ?_
      refine va_get (D := D) (ci := 2) (v := .ref (b 3)) (C := RX2) (T := TX2) (N := 15) hx hb hts w_1 hown hK hP 0 rfl rfl 7 (by decide) w_0 (fun _ h9 => h9) rfl dX2_set_79 ?_
      refine lv_bipush (v := 48) hx hb dX2_set_82 (by decide) ?_
      refine lv_iload_n hx hb dX2_set_84 rfl (lv_at hl 1 rfl) ?_
      refine lv_iadd hx hb dX2_set_85 ?_
      have g_7 := inb_vp (gb_l h)
      have h := gb_r h
      refine va_iald hx hb hK hP 3 0 rfl rfl g_7 dX2_set_86 ?_
      refine lv_topi (fun v_8 ev_8 => ?_)
      have h := nm_l h ev_8
      refine lv_istore (lv' := [(4, .int v_8), (0, .ref (b 0)), (1, .int p1), (2, .int p2)]) hx hb dX2_set_87 hl (by decide) rfl (fun ls hl => ?_)
      refine lv_aload_n hx hb dX2_set_89 rfl (lv_at hl 1 rfl) ?_
      refine va_get (D := D) (ci := 2) (v := .ref (b 3)) (C := RX2) (T := TX2) (N := 15) hx hb hts w_1 hown hK hP 0 rfl rfl 7 (by decide) w_0 (fun _ h9 => h9) rfl dX2_set_90 ?_
      refine lv_bipush (v := 48) hx hb dX2_set_93 (by decide) ?_
      refine lv_iload_n hx hb dX2_set_95 rfl (lv_at hl 2 rfl) ?_
      refine lv_iadd hx hb dX2_set_96 ?_
      refine lv_iload_n hx hb dX2_set_97 rfl (lv_at hl 3 rfl) ?_
      have g_9 := inb_vp (gb_l h)
      have h := gb_r h
      refine va_iast hx hb hK hP hD hS 3 0 rfl rfl g_9 dX2_set_98 (fun H locs hP hD hS => ?_)
      obtain ⟨q_10, eq_10⟩ : ∃ y : MdV, y = mu_now q_5 (upd (m_now q_5) (48 + p1).toNatClampNeg p2) := ⟨_, rfl⟩
      have hP : va_P D vwCl (mdW k b q_10) H := by rw [eq_10, ← md_set_now k b q_5 _]; exact hP
      have hD : va_D A (mdW k b q_10) := by rw [eq_10, ← md_set_now k b q_5 _]; exact hD
      have h := nm_l h eq_10
      refine lv_iload hx hb dX2_set_99 (lv_at hl 0 rfl) ?_
      cases h
      exact Ck_iret hx hb hr hP hD hS dX2_set_101 hlocks
    · have h := it_r c_4 h
      refine lv_iconst (v := 0) hx hb dX2_set_72 (by decide) ?_
      cases h
      exact Ck_iret hx hb hr hP hD hS dX2_set_73 hlocks
  have hC_65 : ∀ (H : Heap) (locs : List Loc) (ls : Array Slot), va_P D vwCl (mdW k b M) H → va_D A (mdW k b M) → va_S A s.heap H locs → lv_has ls 5 [(0, .ref (b 0)), (1, .int p1), (2, .int p2)] → f_X2_set_65 M p1 p2  = some (o0, o1) → W p l e ({ frames := 2, cells := 0, slots := 0, locals := 45 } : Room) s m args below meth c H locs 0 0 (MQ below (Qk D A (some (.int o0)) (mdW k b o1)) args s 0 0 A) (F0 m 65 ls [.ref (b 0)]) := by
    intro  H locs ls hP hD hS hl h
    unfold f_X2_set_65 at h
    refine lv_iconst (v := 1) hx hb dX2_set_65 (by decide) ?_
    exact hC_66 1 _ _ _ hP hD hS (lv_sub hl [0, 1, 2] rfl) h
  have hC_43 : ∀ (t0_43 : Int32) (H : Heap) (locs : List Loc) (ls : Array Slot), va_P D vwCl (mdW k b M) H → va_D A (mdW k b M) → va_S A s.heap H locs → lv_has ls 5 [(0, .ref (b 0)), (1, .int p1), (2, .int p2)] → f_X2_set_43 M p1 p2 t0_43 = some (o0, o1) → W p l e ({ frames := 2, cells := 0, slots := 0, locals := 45 } : Room) s m args below meth c H locs 0 0 (MQ below (Qk D A (some (.int o0)) (mdW k b o1)) args s 0 0 A) (F0 m 43 ls [.int t0_43]) := by
    intro t0_43 H locs ls hP hD hS hl h
    unfold f_X2_set_43 at h
    refine lv_istore_n (lv' := [(3, .int t0_43), (0, .ref (b 0)), (1, .int p1), (2, .int p2)]) hx hb dX2_set_43 rfl hl (by decide) rfl (fun ls hl => ?_)
    refine lv_aload_n hx hb dX2_set_44 rfl (lv_at hl 1 rfl) ?_
    refine lv_iload_n hx hb dX2_set_45 rfl (lv_at hl 2 rfl) ?_
    refine lv_i2l hx hb dX2_set_46 rfl ?_
    refine lv_lconst (v := 0) hx hb dX2_set_47 (by decide) ?_
    refine lv_ldc2 (v := 4) hx hb hown w_2 dX2_set_48 ?_
    obtain ⟨v_11, hv_12, h⟩ := bd_l h
    refine Ck_S (As := [.long (p1.toInt64), .long 0, .long 4]) (rest := [.ref (b 0)]) (wc := ([] : va_W)) (wc' := ([] : va_W)) (w0' := mdW k b M) ⟨hx, hb, hml, hown, hts⟩ (c_X2_in l D k  (p1.toInt64) 0 4 v_11 hv_12) (va_cwS 3 hts gX2_set_X2_in rfl rfl rfl (by decide +kernel) ⟨Nat.le_of_ble_eq_true rfl, Nat.le_of_ble_eq_true rfl⟩) hK hP hD hS hA [] rfl (by decide) rfl rfl rfl hl.1 rfl (Nat.le_of_ble_eq_true rfl) dX2_set_51 ⟨Nat.le_of_ble_eq_true rfl, Nat.le_of_ble_eq_true rfl⟩ (fun H locs hP hD hS => ?_)
    refine W.eq (g2 := F0 m 54 ls [.int v_11, .ref (b 0)]) rfl ?_
    refine lv_if_eq (tgt := 65) hx hb dX2_set_54 (by decide) (fun c_13 => ?_) (fun c_13 => ?_)
    · have h := it_l c_13 h
      exact hC_65  _ _ _ hP hD hS (lv_sub hl [1, 2, 3] rfl) h
    · have h := it_r c_13 h
      refine lv_iload_n hx hb dX2_set_57 rfl (lv_at hl 0 rfl) ?_
      refine lv_if_eq (tgt := 65) hx hb dX2_set_58 (by decide) (fun c_14 => ?_) (fun c_14 => ?_)
      · have h := it_l c_14 h
        exact hC_65  _ _ _ hP hD hS (lv_sub hl [1, 2, 3] rfl) h
      · have h := it_r c_14 h
        refine lv_iconst (v := 0) hx hb dX2_set_61 (by decide) ?_
        refine lv_goto (tgt := 66) hx hb dX2_set_62 (by decide) ?_
        exact hC_66 0 _ _ _ hP hD hS (lv_sub hl [1, 2, 3] rfl) h
  refine lv_iload_n hx hb dX2_set_0 rfl (lv_at hl 1 rfl) ?_
  refine lv_iconst (v := 2) hx hb dX2_set_1 (by decide) ?_
  refine lv_icmp_ge (tgt := 17) hx hb dX2_set_2 (by decide) (fun c_15 => ?_) (fun c_15 => ?_)
  · have h := it_l c_15 h
    refine lv_iload_n hx hb dX2_set_17 rfl (lv_at hl 1 rfl) ?_
    refine lv_iconst (v := 4) hx hb dX2_set_18 (by decide) ?_
    refine lv_icmp_ge (tgt := 34) hx hb dX2_set_19 (by decide) (fun c_16 => ?_) (fun c_16 => ?_)
    · have h := it_l c_16 h
      refine lv_iload_n hx hb dX2_set_34 rfl (lv_at hl 2 rfl) ?_
      refine lv_i2l hx hb dX2_set_35 rfl ?_
      refine lv_lconst (v := 1) hx hb dX2_set_36 (by decide) ?_
      refine lv_ldc2 (v := 20) hx hb hown w_3 dX2_set_37 ?_
      obtain ⟨v_17, hv_18, h⟩ := bd_l h
      refine Ck_S (As := [.long (p2.toInt64), .long 1, .long 20]) (rest := []) (wc := ([] : va_W)) (wc' := ([] : va_W)) (w0' := mdW k b M) ⟨hx, hb, hml, hown, hts⟩ (c_X2_in l D k  (p2.toInt64) 1 20 v_17 hv_18) (va_cwS 3 hts gX2_set_X2_in rfl rfl rfl (by decide +kernel) ⟨Nat.le_of_ble_eq_true rfl, Nat.le_of_ble_eq_true rfl⟩) hK hP hD hS hA [] rfl (by decide) rfl rfl rfl hl.1 rfl (Nat.le_of_ble_eq_true rfl) dX2_set_40 ⟨Nat.le_of_ble_eq_true rfl, Nat.le_of_ble_eq_true rfl⟩ (fun H locs hP hD hS => ?_)
      refine W.eq (g2 := F0 m 43 ls [.int v_17]) rfl ?_
      exact hC_43 v_17 _ _ _ hP hD hS (lv_sub hl [0, 1, 2] rfl) h
    · have h := it_r c_16 h
      refine lv_iload_n hx hb dX2_set_22 rfl (lv_at hl 2 rfl) ?_
      refine lv_i2l hx hb dX2_set_23 rfl ?_
      refine lv_lconst (v := 0) hx hb dX2_set_24 (by decide) ?_
      refine lv_ldc2 (v := 99) hx hb hown w_4 dX2_set_25 ?_
      obtain ⟨v_19, hv_20, h⟩ := bd_l h
      refine Ck_S (As := [.long (p2.toInt64), .long 0, .long 99]) (rest := []) (wc := ([] : va_W)) (wc' := ([] : va_W)) (w0' := mdW k b M) ⟨hx, hb, hml, hown, hts⟩ (c_X2_in l D k  (p2.toInt64) 0 99 v_19 hv_20) (va_cwS 3 hts gX2_set_X2_in rfl rfl rfl (by decide +kernel) ⟨Nat.le_of_ble_eq_true rfl, Nat.le_of_ble_eq_true rfl⟩) hK hP hD hS hA [] rfl (by decide) rfl rfl rfl hl.1 rfl (Nat.le_of_ble_eq_true rfl) dX2_set_28 ⟨Nat.le_of_ble_eq_true rfl, Nat.le_of_ble_eq_true rfl⟩ (fun H locs hP hD hS => ?_)
      refine W.eq (g2 := F0 m 31 ls [.int v_19]) rfl ?_
      refine lv_goto (tgt := 43) hx hb dX2_set_31 (by decide) ?_
      exact hC_43 v_19 _ _ _ hP hD hS (lv_sub hl [0, 1, 2] rfl) h
  · have h := it_r c_15 h
    refine lv_iload_n hx hb dX2_set_5 rfl (lv_at hl 2 rfl) ?_
    refine lv_i2l hx hb dX2_set_6 rfl ?_
    refine lv_lconst (v := 0) hx hb dX2_set_7 (by decide) ?_
    refine lv_ldc2 (v := 999) hx hb hown w_5 dX2_set_8 ?_
    obtain ⟨v_21, hv_22, h⟩ := bd_l h
    refine Ck_S (As := [.long (p2.toInt64), .long 0, .long 999]) (rest := []) (wc := ([] : va_W)) (wc' := ([] : va_W)) (w0' := mdW k b M) ⟨hx, hb, hml, hown, hts⟩ (c_X2_in l D k  (p2.toInt64) 0 999 v_21 hv_22) (va_cwS 3 hts gX2_set_X2_in rfl rfl rfl (by decide +kernel) ⟨Nat.le_of_ble_eq_true rfl, Nat.le_of_ble_eq_true rfl⟩) hK hP hD hS hA [] rfl (by decide) rfl rfl rfl hl.1 rfl (Nat.le_of_ble_eq_true rfl) dX2_set_11 ⟨Nat.le_of_ble_eq_true rfl, Nat.le_of_ble_eq_true rfl⟩ (fun H locs hP hD hS => ?_)
    refine W.eq (g2 := F0 m 14 ls [.int v_21]) rfl ?_
    refine lv_goto (tgt := 43) hx hb dX2_set_14 (by decide) ?_
    exact hC_43 v_21 _ _ _ hP hD hS (lv_sub hl [0, 1, 2] rfl) h
def f_X2_setValve_30 (M : MdV) (p1 : Int32) (p2 : Int32) (t0_30 : Int32) : Option (Int32 × MdV) := bd (f_X2_refused M t0_30) fun ⟨v_1, q_2⟩ => if v_1 = 0 then (bd (f_X2_change q_2 (18 + p1) p2) fun ⟨v_5, q_6⟩ => some (v_5, q_6)) else (some (0, q_2))
def f_X2_setValve (M : MdV) (p1 : Int32) (p2 : Int32) : Option (Int32 × MdV) := bd (f_X2_isEffect M p1) fun v_8 => if v_8 = 0 then (f_X2_setValve_30 M p1 p2 1) else (bd (f_X2_in (p2.toInt64) 0 999) fun v_11 => if v_11 = 0 then (f_X2_setValve_30 M p1 p2 2) else (f_X2_setValve_30 M p1 p2 0))
set_option maxRecDepth 100000 in
set_option maxHeartbeats 4000000 in
theorem c_X2_setValve (l : Launch) (D : va_G) (k : Nat → ClassId) (b : Nat → Nat) (M : MdV) (p1 : Int32) (p2 : Int32) (o0 : Int32) (o1 : MdV) (h : f_X2_setValve M p1 p2 = some (o0, o1)) : Ck l D (tyK k) yX2_setValve wsX2_setValve ({ frames := 3, cells := 0, slots := 0, locals := 68 } : Room) [.ref (b 0), .int p1, .int p2] (mdW k b M) (some (.int o0)) (mdW k b o1) := by
  refine Ck_of (cc := cX2_setValve) (maxL := 3) (ret := (some .int)) (by decide) rfl (Nat.le_of_ble_eq_true rfl) ?_
  intro p e s m args below meth c A ls hx hb hr hml hts hown hlocks hK hA hP hD hS hl
  have hl : lv_has ls 3 [(0, .ref (b 0)), (1, .int p1), (2, .int p2)] := hl
  have hP : va_P D vwCl (mdW k b M) s.heap := hP
  have w_0 := hts (.constantLong RX2 147 (999)) (by decide +kernel)
  unfold f_X2_setValve at h
  have hC_30 : ∀ (t0_30 : Int32) (H : Heap) (locs : List Loc) (ls : Array Slot), va_P D vwCl (mdW k b M) H → va_D A (mdW k b M) → va_S A s.heap H locs → lv_has ls 3 [(0, .ref (b 0)), (1, .int p1), (2, .int p2)] → f_X2_setValve_30 M p1 p2 t0_30 = some (o0, o1) → W p l e ({ frames := 3, cells := 0, slots := 0, locals := 68 } : Room) s m args below meth c H locs 0 0 (MQ below (Qk D A (some (.int o0)) (mdW k b o1)) args s 0 0 A) (F0 m 30 ls [.int t0_30, .ref (b 0)]) := by
    intro t0_30 H locs ls hP hD hS hl h
    unfold f_X2_setValve_30 at h
    obtain ⟨⟨v_1, q_2⟩, hv_3, h⟩ := bd_l h
    refine Ck_V (As := [.int t0_30]) (rest := []) (wc := mdW k b M) (wc' := mdW k b q_2) (w0' := mdW k b q_2) ⟨hx, hb, hml, hown, hts⟩ (c_X2_refused l D k b M t0_30 v_1 q_2 hv_3) (cwV 1 hts gX2_setValve_X2_refused rfl rfl rfl (by decide +kernel) ⟨Nat.le_of_ble_eq_true rfl, Nat.le_of_ble_eq_true rfl⟩) hK hP hD hS hA (q0 := 0) (ci := 2) rfl rfl [0, 1, 2, 3, 4, 5, 6, 7, 8, 9] rfl (by decide) rfl rfl rfl hl.1 rfl (Nat.le_of_ble_eq_true rfl) dX2_setValve_30 ⟨Nat.le_of_ble_eq_true rfl, Nat.le_of_ble_eq_true rfl⟩ (fun H locs hP hD hS => ?_)
    refine W.eq (g2 := F0 m 33 ls [.int v_1]) rfl ?_
    refine lv_if_eq (tgt := 38) hx hb dX2_setValve_33 (by decide) (fun c_4 => ?_) (fun c_4 => ?_)
    · have h := it_l c_4 h
      refine lv_aload_n hx hb dX2_setValve_38 rfl (lv_at hl 0 rfl) ?_
      refine lv_bipush (v := 18) hx hb dX2_setValve_39 (by decide) ?_
      refine lv_iload_n hx hb dX2_setValve_41 rfl (lv_at hl 1 rfl) ?_
      refine lv_iadd hx hb dX2_setValve_42 ?_
      refine lv_iload_n hx hb dX2_setValve_43 rfl (lv_at hl 2 rfl) ?_
      obtain ⟨⟨v_5, q_6⟩, hv_7, h⟩ := bd_l h
      refine Ck_V (As := [.int (18 + p1), .int p2]) (rest := []) (wc := mdW k b q_2) (wc' := mdW k b q_6) (w0' := mdW k b q_6) ⟨hx, hb, hml, hown, hts⟩ (c_X2_change l D k b q_2 (18 + p1) p2 v_5 q_6 hv_7) (cwV 2 hts gX2_setValve_X2_change rfl rfl rfl (by decide +kernel) ⟨Nat.le_of_ble_eq_true rfl, Nat.le_of_ble_eq_true rfl⟩) hK hP hD hS hA (q0 := 0) (ci := 2) rfl rfl [0, 1, 2, 3, 4, 5, 6, 7, 8, 9] rfl (by decide) rfl rfl rfl hl.1 rfl (Nat.le_of_ble_eq_true rfl) dX2_setValve_44 ⟨Nat.le_of_ble_eq_true rfl, Nat.le_of_ble_eq_true rfl⟩ (fun H locs hP hD hS => ?_)
      refine W.eq (g2 := F0 m 47 ls [.int v_5]) rfl ?_
      cases h
      exact Ck_iret hx hb hr hP hD hS dX2_setValve_47 hlocks
    · have h := it_r c_4 h
      refine lv_iconst (v := 0) hx hb dX2_setValve_36 (by decide) ?_
      cases h
      exact Ck_iret hx hb hr hP hD hS dX2_setValve_37 hlocks
  refine lv_aload_n hx hb dX2_setValve_0 rfl (lv_at hl 0 rfl) ?_
  refine lv_aload_n hx hb dX2_setValve_1 rfl (lv_at hl 0 rfl) ?_
  refine lv_iload_n hx hb dX2_setValve_2 rfl (lv_at hl 1 rfl) ?_
  obtain ⟨v_8, hv_9, h⟩ := bd_l h
  refine Ck_V (As := [.int p1]) (rest := [.ref (b 0)]) (wc := [mdO b M]) (wc' := [mdO b M]) (w0' := mdW k b M) ⟨hx, hb, hml, hown, hts⟩ (c_X2_isEffect l D k b M p1 v_8 hv_9) (cwV 1 hts gX2_setValve_X2_isEffect rfl rfl rfl (by decide +kernel) ⟨Nat.le_of_ble_eq_true rfl, Nat.le_of_ble_eq_true rfl⟩) hK hP hD hS hA (q0 := 0) (ci := 2) rfl rfl [0] rfl (by decide) rfl rfl rfl hl.1 rfl (Nat.le_of_ble_eq_true rfl) dX2_setValve_3 ⟨Nat.le_of_ble_eq_true rfl, Nat.le_of_ble_eq_true rfl⟩ (fun H locs hP hD hS => ?_)
  refine W.eq (g2 := F0 m 6 ls [.int v_8, .ref (b 0)]) rfl ?_
  refine lv_if_ne (tgt := 13) hx hb dX2_setValve_6 (by decide) (fun c_10 => ?_) (fun c_10 => ?_)
  · have h := it_r c_10 h
    refine lv_iload_n hx hb dX2_setValve_13 rfl (lv_at hl 2 rfl) ?_
    refine lv_i2l hx hb dX2_setValve_14 rfl ?_
    refine lv_lconst (v := 0) hx hb dX2_setValve_15 (by decide) ?_
    refine lv_ldc2 (v := 999) hx hb hown w_0 dX2_setValve_16 ?_
    obtain ⟨v_11, hv_12, h⟩ := bd_l h
    refine Ck_S (As := [.long (p2.toInt64), .long 0, .long 999]) (rest := [.ref (b 0)]) (wc := ([] : va_W)) (wc' := ([] : va_W)) (w0' := mdW k b M) ⟨hx, hb, hml, hown, hts⟩ (c_X2_in l D k  (p2.toInt64) 0 999 v_11 hv_12) (va_cwS 3 hts gX2_setValve_X2_in rfl rfl rfl (by decide +kernel) ⟨Nat.le_of_ble_eq_true rfl, Nat.le_of_ble_eq_true rfl⟩) hK hP hD hS hA [] rfl (by decide) rfl rfl rfl hl.1 rfl (Nat.le_of_ble_eq_true rfl) dX2_setValve_19 ⟨Nat.le_of_ble_eq_true rfl, Nat.le_of_ble_eq_true rfl⟩ (fun H locs hP hD hS => ?_)
    refine W.eq (g2 := F0 m 22 ls [.int v_11, .ref (b 0)]) rfl ?_
    refine lv_if_ne (tgt := 29) hx hb dX2_setValve_22 (by decide) (fun c_13 => ?_) (fun c_13 => ?_)
    · have h := it_r c_13 h
      refine lv_iconst (v := 0) hx hb dX2_setValve_29 (by decide) ?_
      exact hC_30 0 _ _ _ hP hD hS (lv_sub hl [0, 1, 2] rfl) h
    · have h := it_l c_13 h
      refine lv_iconst (v := 2) hx hb dX2_setValve_25 (by decide) ?_
      refine lv_goto (tgt := 30) hx hb dX2_setValve_26 (by decide) ?_
      exact hC_30 2 _ _ _ hP hD hS (lv_sub hl [0, 1, 2] rfl) h
  · have h := it_l c_10 h
    refine lv_iconst (v := 1) hx hb dX2_setValve_9 (by decide) ?_
    refine lv_goto (tgt := 30) hx hb dX2_setValve_10 (by decide) ?_
    exact hC_30 1 _ _ _ hP hD hS (lv_sub hl [0, 1, 2] rfl) h
def f_X2_setBleed_30 (M : MdV) (p1 : Int32) (p2 : Int32) (t0_30 : Int32) : Option (Int32 × MdV) := bd (f_X2_refused M t0_30) fun ⟨v_1, q_2⟩ => if v_1 = 0 then (bd (f_X2_change q_2 (24 + p1) p2) fun ⟨v_5, q_6⟩ => some (v_5, q_6)) else (some (0, q_2))
def f_X2_setBleed (M : MdV) (p1 : Int32) (p2 : Int32) : Option (Int32 × MdV) := bd (f_X2_isEffect M p1) fun v_8 => if v_8 = 0 then (f_X2_setBleed_30 M p1 p2 1) else (bd (f_X2_in (p2.toInt64) 0 90) fun v_11 => if v_11 = 0 then (f_X2_setBleed_30 M p1 p2 2) else (f_X2_setBleed_30 M p1 p2 0))
set_option maxRecDepth 100000 in
set_option maxHeartbeats 4000000 in
theorem c_X2_setBleed (l : Launch) (D : va_G) (k : Nat → ClassId) (b : Nat → Nat) (M : MdV) (p1 : Int32) (p2 : Int32) (o0 : Int32) (o1 : MdV) (h : f_X2_setBleed M p1 p2 = some (o0, o1)) : Ck l D (tyK k) yX2_setBleed wsX2_setBleed ({ frames := 3, cells := 0, slots := 0, locals := 68 } : Room) [.ref (b 0), .int p1, .int p2] (mdW k b M) (some (.int o0)) (mdW k b o1) := by
  refine Ck_of (cc := cX2_setBleed) (maxL := 3) (ret := (some .int)) (by decide) rfl (Nat.le_of_ble_eq_true rfl) ?_
  intro p e s m args below meth c A ls hx hb hr hml hts hown hlocks hK hA hP hD hS hl
  have hl : lv_has ls 3 [(0, .ref (b 0)), (1, .int p1), (2, .int p2)] := hl
  have hP : va_P D vwCl (mdW k b M) s.heap := hP
  have w_0 := hts (.constantLong RX2 156 (90)) (by decide +kernel)
  unfold f_X2_setBleed at h
  have hC_30 : ∀ (t0_30 : Int32) (H : Heap) (locs : List Loc) (ls : Array Slot), va_P D vwCl (mdW k b M) H → va_D A (mdW k b M) → va_S A s.heap H locs → lv_has ls 3 [(0, .ref (b 0)), (1, .int p1), (2, .int p2)] → f_X2_setBleed_30 M p1 p2 t0_30 = some (o0, o1) → W p l e ({ frames := 3, cells := 0, slots := 0, locals := 68 } : Room) s m args below meth c H locs 0 0 (MQ below (Qk D A (some (.int o0)) (mdW k b o1)) args s 0 0 A) (F0 m 30 ls [.int t0_30, .ref (b 0)]) := by
    intro t0_30 H locs ls hP hD hS hl h
    unfold f_X2_setBleed_30 at h
    obtain ⟨⟨v_1, q_2⟩, hv_3, h⟩ := bd_l h
    refine Ck_V (As := [.int t0_30]) (rest := []) (wc := mdW k b M) (wc' := mdW k b q_2) (w0' := mdW k b q_2) ⟨hx, hb, hml, hown, hts⟩ (c_X2_refused l D k b M t0_30 v_1 q_2 hv_3) (cwV 1 hts gX2_setBleed_X2_refused rfl rfl rfl (by decide +kernel) ⟨Nat.le_of_ble_eq_true rfl, Nat.le_of_ble_eq_true rfl⟩) hK hP hD hS hA (q0 := 0) (ci := 2) rfl rfl [0, 1, 2, 3, 4, 5, 6, 7, 8, 9] rfl (by decide) rfl rfl rfl hl.1 rfl (Nat.le_of_ble_eq_true rfl) dX2_setBleed_30 ⟨Nat.le_of_ble_eq_true rfl, Nat.le_of_ble_eq_true rfl⟩ (fun H locs hP hD hS => ?_)
    refine W.eq (g2 := F0 m 33 ls [.int v_1]) rfl ?_
    refine lv_if_eq (tgt := 38) hx hb dX2_setBleed_33 (by decide) (fun c_4 => ?_) (fun c_4 => ?_)
    · have h := it_l c_4 h
      refine lv_aload_n hx hb dX2_setBleed_38 rfl (lv_at hl 0 rfl) ?_
      refine lv_bipush (v := 24) hx hb dX2_setBleed_39 (by decide) ?_
      refine lv_iload_n hx hb dX2_setBleed_41 rfl (lv_at hl 1 rfl) ?_
      refine lv_iadd hx hb dX2_setBleed_42 ?_
      refine lv_iload_n hx hb dX2_setBleed_43 rfl (lv_at hl 2 rfl) ?_
      obtain ⟨⟨v_5, q_6⟩, hv_7, h⟩ := bd_l h
      refine Ck_V (As := [.int (24 + p1), .int p2]) (rest := []) (wc := mdW k b q_2) (wc' := mdW k b q_6) (w0' := mdW k b q_6) ⟨hx, hb, hml, hown, hts⟩ (c_X2_change l D k b q_2 (24 + p1) p2 v_5 q_6 hv_7) (cwV 2 hts gX2_setBleed_X2_change rfl rfl rfl (by decide +kernel) ⟨Nat.le_of_ble_eq_true rfl, Nat.le_of_ble_eq_true rfl⟩) hK hP hD hS hA (q0 := 0) (ci := 2) rfl rfl [0, 1, 2, 3, 4, 5, 6, 7, 8, 9] rfl (by decide) rfl rfl rfl hl.1 rfl (Nat.le_of_ble_eq_true rfl) dX2_setBleed_44 ⟨Nat.le_of_ble_eq_true rfl, Nat.le_of_ble_eq_true rfl⟩ (fun H locs hP hD hS => ?_)
      refine W.eq (g2 := F0 m 47 ls [.int v_5]) rfl ?_
      cases h
      exact Ck_iret hx hb hr hP hD hS dX2_setBleed_47 hlocks
    · have h := it_r c_4 h
      refine lv_iconst (v := 0) hx hb dX2_setBleed_36 (by decide) ?_
      cases h
      exact Ck_iret hx hb hr hP hD hS dX2_setBleed_37 hlocks
  refine lv_aload_n hx hb dX2_setBleed_0 rfl (lv_at hl 0 rfl) ?_
  refine lv_aload_n hx hb dX2_setBleed_1 rfl (lv_at hl 0 rfl) ?_
  refine lv_iload_n hx hb dX2_setBleed_2 rfl (lv_at hl 1 rfl) ?_
  obtain ⟨v_8, hv_9, h⟩ := bd_l h
  refine Ck_V (As := [.int p1]) (rest := [.ref (b 0)]) (wc := [mdO b M]) (wc' := [mdO b M]) (w0' := mdW k b M) ⟨hx, hb, hml, hown, hts⟩ (c_X2_isEffect l D k b M p1 v_8 hv_9) (cwV 1 hts gX2_setBleed_X2_isEffect rfl rfl rfl (by decide +kernel) ⟨Nat.le_of_ble_eq_true rfl, Nat.le_of_ble_eq_true rfl⟩) hK hP hD hS hA (q0 := 0) (ci := 2) rfl rfl [0] rfl (by decide) rfl rfl rfl hl.1 rfl (Nat.le_of_ble_eq_true rfl) dX2_setBleed_3 ⟨Nat.le_of_ble_eq_true rfl, Nat.le_of_ble_eq_true rfl⟩ (fun H locs hP hD hS => ?_)
  refine W.eq (g2 := F0 m 6 ls [.int v_8, .ref (b 0)]) rfl ?_
  refine lv_if_ne (tgt := 13) hx hb dX2_setBleed_6 (by decide) (fun c_10 => ?_) (fun c_10 => ?_)
  · have h := it_r c_10 h
    refine lv_iload_n hx hb dX2_setBleed_13 rfl (lv_at hl 2 rfl) ?_
    refine lv_i2l hx hb dX2_setBleed_14 rfl ?_
    refine lv_lconst (v := 0) hx hb dX2_setBleed_15 (by decide) ?_
    refine lv_ldc2 (v := 90) hx hb hown w_0 dX2_setBleed_16 ?_
    obtain ⟨v_11, hv_12, h⟩ := bd_l h
    refine Ck_S (As := [.long (p2.toInt64), .long 0, .long 90]) (rest := [.ref (b 0)]) (wc := ([] : va_W)) (wc' := ([] : va_W)) (w0' := mdW k b M) ⟨hx, hb, hml, hown, hts⟩ (c_X2_in l D k  (p2.toInt64) 0 90 v_11 hv_12) (va_cwS 3 hts gX2_setBleed_X2_in rfl rfl rfl (by decide +kernel) ⟨Nat.le_of_ble_eq_true rfl, Nat.le_of_ble_eq_true rfl⟩) hK hP hD hS hA [] rfl (by decide) rfl rfl rfl hl.1 rfl (Nat.le_of_ble_eq_true rfl) dX2_setBleed_19 ⟨Nat.le_of_ble_eq_true rfl, Nat.le_of_ble_eq_true rfl⟩ (fun H locs hP hD hS => ?_)
    refine W.eq (g2 := F0 m 22 ls [.int v_11, .ref (b 0)]) rfl ?_
    refine lv_if_ne (tgt := 29) hx hb dX2_setBleed_22 (by decide) (fun c_13 => ?_) (fun c_13 => ?_)
    · have h := it_r c_13 h
      refine lv_iconst (v := 0) hx hb dX2_setBleed_29 (by decide) ?_
      exact hC_30 0 _ _ _ hP hD hS (lv_sub hl [0, 1, 2] rfl) h
    · have h := it_l c_13 h
      refine lv_iconst (v := 2) hx hb dX2_setBleed_25 (by decide) ?_
      refine lv_goto (tgt := 30) hx hb dX2_setBleed_26 (by decide) ?_
      exact hC_30 2 _ _ _ hP hD hS (lv_sub hl [0, 1, 2] rfl) h
  · have h := it_l c_10 h
    refine lv_iconst (v := 1) hx hb dX2_setBleed_9 (by decide) ?_
    refine lv_goto (tgt := 30) hx hb dX2_setBleed_10 (by decide) ?_
    exact hC_30 1 _ _ _ hP hD hS (lv_sub hl [0, 1, 2] rfl) h
def f_X2_wash_45 (M : MdV) (p1 : Int32) (p2 : Int32) (t0_45 : Int32) : Option (Int32 × MdV) := bd (f_X2_refused M t0_45) fun ⟨v_1, q_2⟩ => if v_1 = 0 then (bd (f_X2_change q_2 (42 + p1) p2) fun ⟨v_5, q_6⟩ => bd (f_X2_washed q_6 (m_now q_6)) fun v_8 => some (v_8, q_6)) else (some (0, q_2))
def f_X2_wash (M : MdV) (p1 : Int32) (p2 : Int32) : Option (Int32 × MdV) := bd (f_X2_isEffect M p1) fun v_10 => if v_10 = 0 then (f_X2_wash_45 M p1 p2 1) else (bd (f_X2_in (p2.toInt64) 1 20) fun v_13 => if v_13 = 0 then (f_X2_wash_45 M p1 p2 2) else (bd (f_X2_works (m_now M) p1) fun v_16 => if v_16 = 0 then (f_X2_wash_45 M p1 p2 3) else (f_X2_wash_45 M p1 p2 0)))
set_option maxRecDepth 100000 in
set_option maxHeartbeats 4000000 in
theorem c_X2_wash (l : Launch) (D : va_G) (k : Nat → ClassId) (b : Nat → Nat) (M : MdV) (p1 : Int32) (p2 : Int32) (o0 : Int32) (o1 : MdV) (h : f_X2_wash M p1 p2 = some (o0, o1)) : Ck l D (tyK k) yX2_wash wsX2_wash ({ frames := 3, cells := 0, slots := 0, locals := 68 } : Room) [.ref (b 0), .int p1, .int p2] (mdW k b M) (some (.int o0)) (mdW k b o1) := by
  refine Ck_of (cc := cX2_wash) (maxL := 3) (ret := (some .int)) (by decide) rfl (Nat.le_of_ble_eq_true rfl) ?_
  intro p e s m args below meth c A ls hx hb hr hml hts hown hlocks hK hA hP hD hS hl
  have hl : lv_has ls 3 [(0, .ref (b 0)), (1, .int p1), (2, .int p2)] := hl
  have hP : va_P D vwCl (mdW k b M) s.heap := hP
  have w_0 := hts (.fieldLink RX2 16 "EffectTrainModel" "now" "[I") (by decide +kernel)
  have w_1 : ∀ w ∈ wsX20, w ∈ wsX2_wash := by decide +kernel
  have w_2 := hts (.constantLong RX2 149 (20)) (by decide +kernel)
  unfold f_X2_wash at h
  have hC_45 : ∀ (t0_45 : Int32) (H : Heap) (locs : List Loc) (ls : Array Slot), va_P D vwCl (mdW k b M) H → va_D A (mdW k b M) → va_S A s.heap H locs → lv_has ls 3 [(0, .ref (b 0)), (1, .int p1), (2, .int p2)] → f_X2_wash_45 M p1 p2 t0_45 = some (o0, o1) → W p l e ({ frames := 3, cells := 0, slots := 0, locals := 68 } : Room) s m args below meth c H locs 0 0 (MQ below (Qk D A (some (.int o0)) (mdW k b o1)) args s 0 0 A) (F0 m 45 ls [.int t0_45, .ref (b 0)]) := by
    intro t0_45 H locs ls hP hD hS hl h
    unfold f_X2_wash_45 at h
    obtain ⟨⟨v_1, q_2⟩, hv_3, h⟩ := bd_l h
    refine Ck_V (As := [.int t0_45]) (rest := []) (wc := mdW k b M) (wc' := mdW k b q_2) (w0' := mdW k b q_2) ⟨hx, hb, hml, hown, hts⟩ (c_X2_refused l D k b M t0_45 v_1 q_2 hv_3) (cwV 1 hts gX2_wash_X2_refused rfl rfl rfl (by decide +kernel) ⟨Nat.le_of_ble_eq_true rfl, Nat.le_of_ble_eq_true rfl⟩) hK hP hD hS hA (q0 := 0) (ci := 2) rfl rfl [0, 1, 2, 3, 4, 5, 6, 7, 8, 9] rfl (by decide) rfl rfl rfl hl.1 rfl (Nat.le_of_ble_eq_true rfl) dX2_wash_45 ⟨Nat.le_of_ble_eq_true rfl, Nat.le_of_ble_eq_true rfl⟩ (fun H locs hP hD hS => ?_)
    refine W.eq (g2 := F0 m 48 ls [.int v_1]) rfl ?_
    refine lv_if_eq (tgt := 53) hx hb dX2_wash_48 (by decide) (fun c_4 => ?_) (fun c_4 => ?_)
    · have h := it_l c_4 h
      refine lv_aload_n hx hb dX2_wash_53 rfl (lv_at hl 0 rfl) ?_
      refine lv_bipush (v := 42) hx hb dX2_wash_54 (by decide) ?_
      refine lv_iload_n hx hb dX2_wash_56 rfl (lv_at hl 1 rfl) ?_
      refine lv_iadd hx hb dX2_wash_57 ?_
      refine lv_iload_n hx hb dX2_wash_58 rfl (lv_at hl 2 rfl) ?_
      obtain ⟨⟨v_5, q_6⟩, hv_7, h⟩ := bd_l h
      refine Ck_V (As := [.int (42 + p1), .int p2]) (rest := []) (wc := mdW k b q_2) (wc' := mdW k b q_6) (w0' := mdW k b q_6) ⟨hx, hb, hml, hown, hts⟩ (c_X2_change l D k b q_2 (42 + p1) p2 v_5 q_6 hv_7) (cwV 2 hts gX2_wash_X2_change rfl rfl rfl (by decide +kernel) ⟨Nat.le_of_ble_eq_true rfl, Nat.le_of_ble_eq_true rfl⟩) hK hP hD hS hA (q0 := 0) (ci := 2) rfl rfl [0, 1, 2, 3, 4, 5, 6, 7, 8, 9] rfl (by decide) rfl rfl rfl hl.1 rfl (Nat.le_of_ble_eq_true rfl) dX2_wash_59 ⟨Nat.le_of_ble_eq_true rfl, Nat.le_of_ble_eq_true rfl⟩ (fun H locs hP hD hS => ?_)
      refine W.eq (g2 := F0 m 62 ls [.int v_5]) rfl ?_
      refine lv_pop hx hb dX2_wash_62 rfl ?_
      refine lv_aload_n hx hb dX2_wash_63 rfl (lv_at hl 0 rfl) ?_
      refine lv_aload_n hx hb dX2_wash_64 rfl (lv_at hl 0 rfl) ?_
      refine va_get (D := D) (ci := 2) (v := .ref (b 3)) (C := RX2) (T := TX2) (N := 15) hx hb hts w_1 hown hK hP 0 rfl rfl 7 (by decide) w_0 (fun _ h9 => h9) rfl dX2_wash_65 ?_
      obtain ⟨v_8, hv_9, h⟩ := bd_l h
      refine Ck_V (As := [.ref (b 3)]) (rest := []) (wc := [mdO b q_6] ++ [(b 3, .inl (k 0, 64, .inl (m_now q_6)))]) (wc' := [mdO b q_6] ++ [(b 3, .inl (k 0, 64, .inl (m_now q_6)))]) (w0' := mdW k b q_6) ⟨hx, hb, hml, hown, hts⟩ (c_X2_washed l D k b (b 3) q_6 (m_now q_6) v_8 hv_9) (cwV 1 hts gX2_wash_X2_washed rfl rfl rfl (by decide +kernel) ⟨Nat.le_of_ble_eq_true rfl, Nat.le_of_ble_eq_true rfl⟩) hK hP hD hS hA (q0 := 0) (ci := 2) rfl rfl [0, 3] rfl (by decide) rfl rfl rfl hl.1 rfl (Nat.le_of_ble_eq_true rfl) dX2_wash_68 ⟨Nat.le_of_ble_eq_true rfl, Nat.le_of_ble_eq_true rfl⟩ (fun H locs hP hD hS => ?_)
      refine W.eq (g2 := F0 m 71 ls [.int v_8]) rfl ?_
      cases h
      exact Ck_iret hx hb hr hP hD hS dX2_wash_71 hlocks
    · have h := it_r c_4 h
      refine lv_iconst (v := 0) hx hb dX2_wash_51 (by decide) ?_
      cases h
      exact Ck_iret hx hb hr hP hD hS dX2_wash_52 hlocks
  refine lv_aload_n hx hb dX2_wash_0 rfl (lv_at hl 0 rfl) ?_
  refine lv_aload_n hx hb dX2_wash_1 rfl (lv_at hl 0 rfl) ?_
  refine lv_iload_n hx hb dX2_wash_2 rfl (lv_at hl 1 rfl) ?_
  obtain ⟨v_10, hv_11, h⟩ := bd_l h
  refine Ck_V (As := [.int p1]) (rest := [.ref (b 0)]) (wc := [mdO b M]) (wc' := [mdO b M]) (w0' := mdW k b M) ⟨hx, hb, hml, hown, hts⟩ (c_X2_isEffect l D k b M p1 v_10 hv_11) (cwV 1 hts gX2_wash_X2_isEffect rfl rfl rfl (by decide +kernel) ⟨Nat.le_of_ble_eq_true rfl, Nat.le_of_ble_eq_true rfl⟩) hK hP hD hS hA (q0 := 0) (ci := 2) rfl rfl [0] rfl (by decide) rfl rfl rfl hl.1 rfl (Nat.le_of_ble_eq_true rfl) dX2_wash_3 ⟨Nat.le_of_ble_eq_true rfl, Nat.le_of_ble_eq_true rfl⟩ (fun H locs hP hD hS => ?_)
  refine W.eq (g2 := F0 m 6 ls [.int v_10, .ref (b 0)]) rfl ?_
  refine lv_if_ne (tgt := 13) hx hb dX2_wash_6 (by decide) (fun c_12 => ?_) (fun c_12 => ?_)
  · have h := it_r c_12 h
    refine lv_iload_n hx hb dX2_wash_13 rfl (lv_at hl 2 rfl) ?_
    refine lv_i2l hx hb dX2_wash_14 rfl ?_
    refine lv_lconst (v := 1) hx hb dX2_wash_15 (by decide) ?_
    refine lv_ldc2 (v := 20) hx hb hown w_2 dX2_wash_16 ?_
    obtain ⟨v_13, hv_14, h⟩ := bd_l h
    refine Ck_S (As := [.long (p2.toInt64), .long 1, .long 20]) (rest := [.ref (b 0)]) (wc := ([] : va_W)) (wc' := ([] : va_W)) (w0' := mdW k b M) ⟨hx, hb, hml, hown, hts⟩ (c_X2_in l D k  (p2.toInt64) 1 20 v_13 hv_14) (va_cwS 3 hts gX2_wash_X2_in rfl rfl rfl (by decide +kernel) ⟨Nat.le_of_ble_eq_true rfl, Nat.le_of_ble_eq_true rfl⟩) hK hP hD hS hA [] rfl (by decide) rfl rfl rfl hl.1 rfl (Nat.le_of_ble_eq_true rfl) dX2_wash_19 ⟨Nat.le_of_ble_eq_true rfl, Nat.le_of_ble_eq_true rfl⟩ (fun H locs hP hD hS => ?_)
    refine W.eq (g2 := F0 m 22 ls [.int v_13, .ref (b 0)]) rfl ?_
    refine lv_if_ne (tgt := 29) hx hb dX2_wash_22 (by decide) (fun c_15 => ?_) (fun c_15 => ?_)
    · have h := it_r c_15 h
      refine lv_aload_n hx hb dX2_wash_29 rfl (lv_at hl 0 rfl) ?_
      refine va_get (D := D) (ci := 2) (v := .ref (b 3)) (C := RX2) (T := TX2) (N := 15) hx hb hts w_1 hown hK hP 0 rfl rfl 7 (by decide) w_0 (fun _ h9 => h9) rfl dX2_wash_30 ?_
      refine lv_iload_n hx hb dX2_wash_33 rfl (lv_at hl 1 rfl) ?_
      obtain ⟨v_16, hv_17, h⟩ := bd_l h
      refine Ck_S (As := [.ref (b 3), .int p1]) (rest := [.ref (b 0)]) (wc := [(b 3, .inl (k 0, 64, .inl (m_now M)))]) (wc' := [(b 3, .inl (k 0, 64, .inl (m_now M)))]) (w0' := mdW k b M) ⟨hx, hb, hml, hown, hts⟩ (c_X2_works l D k (b 3) (m_now M) p1 v_16 hv_17) (va_cwS 2 hts gX2_wash_X2_works rfl rfl rfl (by decide +kernel) ⟨Nat.le_of_ble_eq_true rfl, Nat.le_of_ble_eq_true rfl⟩) hK hP hD hS hA [3] rfl (by decide) rfl rfl rfl hl.1 rfl (Nat.le_of_ble_eq_true rfl) dX2_wash_34 ⟨Nat.le_of_ble_eq_true rfl, Nat.le_of_ble_eq_true rfl⟩ (fun H locs hP hD hS => ?_)
      refine W.eq (g2 := F0 m 37 ls [.int v_16, .ref (b 0)]) rfl ?_
      refine lv_if_ne (tgt := 44) hx hb dX2_wash_37 (by decide) (fun c_18 => ?_) (fun c_18 => ?_)
      · have h := it_r c_18 h
        refine lv_iconst (v := 0) hx hb dX2_wash_44 (by decide) ?_
        exact hC_45 0 _ _ _ hP hD hS (lv_sub hl [0, 1, 2] rfl) h
      · have h := it_l c_18 h
        refine lv_iconst (v := 3) hx hb dX2_wash_40 (by decide) ?_
        refine lv_goto (tgt := 45) hx hb dX2_wash_41 (by decide) ?_
        exact hC_45 3 _ _ _ hP hD hS (lv_sub hl [0, 1, 2] rfl) h
    · have h := it_l c_15 h
      refine lv_iconst (v := 2) hx hb dX2_wash_25 (by decide) ?_
      refine lv_goto (tgt := 45) hx hb dX2_wash_26 (by decide) ?_
      exact hC_45 2 _ _ _ hP hD hS (lv_sub hl [0, 1, 2] rfl) h
  · have h := it_l c_12 h
    refine lv_iconst (v := 1) hx hb dX2_wash_9 (by decide) ?_
    refine lv_goto (tgt := 45) hx hb dX2_wash_10 (by decide) ?_
    exact hC_45 1 _ _ _ hP hD hS (lv_sub hl [0, 1, 2] rfl) h
def f_X2_endWash_29 (M : MdV) (p1 : Int32) (t0_29 : Int32) : Option (Int32 × MdV) := bd (f_X2_refused M t0_29) fun ⟨v_1, q_2⟩ => if v_1 = 0 then (bd (f_X2_change q_2 (42 + p1) 0) fun ⟨v_5, q_6⟩ => some (v_5, q_6)) else (some (0, q_2))
def f_X2_endWash (M : MdV) (p1 : Int32) : Option (Int32 × MdV) := bd (f_X2_isEffect M p1) fun v_8 => if v_8 = 0 then (f_X2_endWash_29 M p1 1) else (bd (f_X2_works (m_now M) p1) fun v_11 => if v_11 = 0 then (f_X2_endWash_29 M p1 0) else (f_X2_endWash_29 M p1 2))
set_option maxRecDepth 100000 in
set_option maxHeartbeats 4000000 in
theorem c_X2_endWash (l : Launch) (D : va_G) (k : Nat → ClassId) (b : Nat → Nat) (M : MdV) (p1 : Int32) (o0 : Int32) (o1 : MdV) (h : f_X2_endWash M p1 = some (o0, o1)) : Ck l D (tyK k) yX2_endWash wsX2_endWash ({ frames := 3, cells := 0, slots := 0, locals := 68 } : Room) [.ref (b 0), .int p1] (mdW k b M) (some (.int o0)) (mdW k b o1) := by
  refine Ck_of (cc := cX2_endWash) (maxL := 2) (ret := (some .int)) (by decide) rfl (Nat.le_of_ble_eq_true rfl) ?_
  intro p e s m args below meth c A ls hx hb hr hml hts hown hlocks hK hA hP hD hS hl
  have hl : lv_has ls 2 [(0, .ref (b 0)), (1, .int p1)] := hl
  have hP : va_P D vwCl (mdW k b M) s.heap := hP
  have w_0 := hts (.fieldLink RX2 16 "EffectTrainModel" "now" "[I") (by decide +kernel)
  have w_1 : ∀ w ∈ wsX20, w ∈ wsX2_endWash := by decide +kernel
  unfold f_X2_endWash at h
  have hC_29 : ∀ (t0_29 : Int32) (H : Heap) (locs : List Loc) (ls : Array Slot), va_P D vwCl (mdW k b M) H → va_D A (mdW k b M) → va_S A s.heap H locs → lv_has ls 2 [(0, .ref (b 0)), (1, .int p1)] → f_X2_endWash_29 M p1 t0_29 = some (o0, o1) → W p l e ({ frames := 3, cells := 0, slots := 0, locals := 68 } : Room) s m args below meth c H locs 0 0 (MQ below (Qk D A (some (.int o0)) (mdW k b o1)) args s 0 0 A) (F0 m 29 ls [.int t0_29, .ref (b 0)]) := by
    intro t0_29 H locs ls hP hD hS hl h
    unfold f_X2_endWash_29 at h
    obtain ⟨⟨v_1, q_2⟩, hv_3, h⟩ := bd_l h
    refine Ck_V (As := [.int t0_29]) (rest := []) (wc := mdW k b M) (wc' := mdW k b q_2) (w0' := mdW k b q_2) ⟨hx, hb, hml, hown, hts⟩ (c_X2_refused l D k b M t0_29 v_1 q_2 hv_3) (cwV 1 hts gX2_endWash_X2_refused rfl rfl rfl (by decide +kernel) ⟨Nat.le_of_ble_eq_true rfl, Nat.le_of_ble_eq_true rfl⟩) hK hP hD hS hA (q0 := 0) (ci := 2) rfl rfl [0, 1, 2, 3, 4, 5, 6, 7, 8, 9] rfl (by decide) rfl rfl rfl hl.1 rfl (Nat.le_of_ble_eq_true rfl) dX2_endWash_29 ⟨Nat.le_of_ble_eq_true rfl, Nat.le_of_ble_eq_true rfl⟩ (fun H locs hP hD hS => ?_)
    refine W.eq (g2 := F0 m 32 ls [.int v_1]) rfl ?_
    refine lv_if_eq (tgt := 37) hx hb dX2_endWash_32 (by decide) (fun c_4 => ?_) (fun c_4 => ?_)
    · have h := it_l c_4 h
      refine lv_aload_n hx hb dX2_endWash_37 rfl (lv_at hl 0 rfl) ?_
      refine lv_bipush (v := 42) hx hb dX2_endWash_38 (by decide) ?_
      refine lv_iload_n hx hb dX2_endWash_40 rfl (lv_at hl 1 rfl) ?_
      refine lv_iadd hx hb dX2_endWash_41 ?_
      refine lv_iconst (v := 0) hx hb dX2_endWash_42 (by decide) ?_
      obtain ⟨⟨v_5, q_6⟩, hv_7, h⟩ := bd_l h
      refine Ck_V (As := [.int (42 + p1), .int 0]) (rest := []) (wc := mdW k b q_2) (wc' := mdW k b q_6) (w0' := mdW k b q_6) ⟨hx, hb, hml, hown, hts⟩ (c_X2_change l D k b q_2 (42 + p1) 0 v_5 q_6 hv_7) (cwV 2 hts gX2_endWash_X2_change rfl rfl rfl (by decide +kernel) ⟨Nat.le_of_ble_eq_true rfl, Nat.le_of_ble_eq_true rfl⟩) hK hP hD hS hA (q0 := 0) (ci := 2) rfl rfl [0, 1, 2, 3, 4, 5, 6, 7, 8, 9] rfl (by decide) rfl rfl rfl hl.1 rfl (Nat.le_of_ble_eq_true rfl) dX2_endWash_43 ⟨Nat.le_of_ble_eq_true rfl, Nat.le_of_ble_eq_true rfl⟩ (fun H locs hP hD hS => ?_)
      refine W.eq (g2 := F0 m 46 ls [.int v_5]) rfl ?_
      cases h
      exact Ck_iret hx hb hr hP hD hS dX2_endWash_46 hlocks
    · have h := it_r c_4 h
      refine lv_iconst (v := 0) hx hb dX2_endWash_35 (by decide) ?_
      cases h
      exact Ck_iret hx hb hr hP hD hS dX2_endWash_36 hlocks
  refine lv_aload_n hx hb dX2_endWash_0 rfl (lv_at hl 0 rfl) ?_
  refine lv_aload_n hx hb dX2_endWash_1 rfl (lv_at hl 0 rfl) ?_
  refine lv_iload_n hx hb dX2_endWash_2 rfl (lv_at hl 1 rfl) ?_
  obtain ⟨v_8, hv_9, h⟩ := bd_l h
  refine Ck_V (As := [.int p1]) (rest := [.ref (b 0)]) (wc := [mdO b M]) (wc' := [mdO b M]) (w0' := mdW k b M) ⟨hx, hb, hml, hown, hts⟩ (c_X2_isEffect l D k b M p1 v_8 hv_9) (cwV 1 hts gX2_endWash_X2_isEffect rfl rfl rfl (by decide +kernel) ⟨Nat.le_of_ble_eq_true rfl, Nat.le_of_ble_eq_true rfl⟩) hK hP hD hS hA (q0 := 0) (ci := 2) rfl rfl [0] rfl (by decide) rfl rfl rfl hl.1 rfl (Nat.le_of_ble_eq_true rfl) dX2_endWash_3 ⟨Nat.le_of_ble_eq_true rfl, Nat.le_of_ble_eq_true rfl⟩ (fun H locs hP hD hS => ?_)
  refine W.eq (g2 := F0 m 6 ls [.int v_8, .ref (b 0)]) rfl ?_
  refine lv_if_ne (tgt := 13) hx hb dX2_endWash_6 (by decide) (fun c_10 => ?_) (fun c_10 => ?_)
  · have h := it_r c_10 h
    refine lv_aload_n hx hb dX2_endWash_13 rfl (lv_at hl 0 rfl) ?_
    refine va_get (D := D) (ci := 2) (v := .ref (b 3)) (C := RX2) (T := TX2) (N := 15) hx hb hts w_1 hown hK hP 0 rfl rfl 7 (by decide) w_0 (fun _ h9 => h9) rfl dX2_endWash_14 ?_
    refine lv_iload_n hx hb dX2_endWash_17 rfl (lv_at hl 1 rfl) ?_
    obtain ⟨v_11, hv_12, h⟩ := bd_l h
    refine Ck_S (As := [.ref (b 3), .int p1]) (rest := [.ref (b 0)]) (wc := [(b 3, .inl (k 0, 64, .inl (m_now M)))]) (wc' := [(b 3, .inl (k 0, 64, .inl (m_now M)))]) (w0' := mdW k b M) ⟨hx, hb, hml, hown, hts⟩ (c_X2_works l D k (b 3) (m_now M) p1 v_11 hv_12) (va_cwS 2 hts gX2_endWash_X2_works rfl rfl rfl (by decide +kernel) ⟨Nat.le_of_ble_eq_true rfl, Nat.le_of_ble_eq_true rfl⟩) hK hP hD hS hA [3] rfl (by decide) rfl rfl rfl hl.1 rfl (Nat.le_of_ble_eq_true rfl) dX2_endWash_18 ⟨Nat.le_of_ble_eq_true rfl, Nat.le_of_ble_eq_true rfl⟩ (fun H locs hP hD hS => ?_)
    refine W.eq (g2 := F0 m 21 ls [.int v_11, .ref (b 0)]) rfl ?_
    refine lv_if_eq (tgt := 28) hx hb dX2_endWash_21 (by decide) (fun c_13 => ?_) (fun c_13 => ?_)
    · have h := it_l c_13 h
      refine lv_iconst (v := 0) hx hb dX2_endWash_28 (by decide) ?_
      exact hC_29 0 _ _ _ hP hD hS (lv_sub hl [0, 1] rfl) h
    · have h := it_r c_13 h
      refine lv_iconst (v := 2) hx hb dX2_endWash_24 (by decide) ?_
      refine lv_goto (tgt := 29) hx hb dX2_endWash_25 (by decide) ?_
      exact hC_29 2 _ _ _ hP hD hS (lv_sub hl [0, 1] rfl) h
  · have h := it_l c_10 h
    refine lv_iconst (v := 1) hx hb dX2_endWash_9 (by decide) ?_
    refine lv_goto (tgt := 29) hx hb dX2_endWash_10 (by decide) ?_
    exact hC_29 1 _ _ _ hP hD hS (lv_sub hl [0, 1] rfl) h
def f_X2_undo_13 (M : MdV) (t0_13 : Int32) : Option (Int32 × MdV) := bd (f_X2_refused M t0_13) fun ⟨v_1, q_2⟩ => if v_1 = 0 then (nm ((m_act q_2) - 1) fun v_5 => nm (mu_act q_2 v_5) fun q_6 => bd (f_X2_copy 896 64 (m_dia q_6) (m_now q_6) (64 * (m_act q_6)) 0 64) fun q_7 => nm (mu_now q_6 q_7) fun q_9 => some ((m_act q_9), q_9)) else (some (0, q_2))
def f_X2_undo (M : MdV) : Option (Int32 × MdV) := if (m_act M) = 0 then (f_X2_undo_13 M 1) else (f_X2_undo_13 M 0)
set_option maxRecDepth 100000 in
set_option maxHeartbeats 4000000 in
theorem c_X2_undo (l : Launch) (D : va_G) (k : Nat → ClassId) (b : Nat → Nat) (M : MdV) (o0 : Int32) (o1 : MdV) (h : f_X2_undo M = some (o0, o1)) : Ck l D (tyK k) yX2_undo wsX2_undo ({ frames := 1, cells := 0, slots := 0, locals := 25 } : Room) [.ref (b 0)] (mdW k b M) (some (.int o0)) (mdW k b o1) := by
  refine Ck_of (cc := cX2_undo) (maxL := 1) (ret := (some .int)) (by decide) rfl (Nat.le_of_ble_eq_true rfl) ?_
  intro p e s m args below meth c A ls hx hb hr hml hts hown hlocks hK hA hP hD hS hl
  have hl : lv_has ls 1 [(0, .ref (b 0))] := hl
  have hP : va_P D vwCl (mdW k b M) s.heap := hP
  have w_0 := hts (.fieldLink RX2 47 "EffectTrainModel" "acts" "I") (by decide +kernel)
  have w_1 : ∀ w ∈ wsX20, w ∈ wsX2_undo := by decide +kernel
  have w_2 := hts (.fieldLink RX2 22 "EffectTrainModel" "diary" "[I") (by decide +kernel)
  have w_3 := hts (.fieldLink RX2 16 "EffectTrainModel" "now" "[I") (by decide +kernel)
  unfold f_X2_undo at h
  have hC_13 : ∀ (t0_13 : Int32) (H : Heap) (locs : List Loc) (ls : Array Slot), va_P D vwCl (mdW k b M) H → va_D A (mdW k b M) → va_S A s.heap H locs → lv_has ls 1 [(0, .ref (b 0))] → f_X2_undo_13 M t0_13 = some (o0, o1) → W p l e ({ frames := 1, cells := 0, slots := 0, locals := 25 } : Room) s m args below meth c H locs 0 0 (MQ below (Qk D A (some (.int o0)) (mdW k b o1)) args s 0 0 A) (F0 m 13 ls [.int t0_13, .ref (b 0)]) := by
    intro t0_13 H locs ls hP hD hS hl h
    unfold f_X2_undo_13 at h
    obtain ⟨⟨v_1, q_2⟩, hv_3, h⟩ := bd_l h
    refine Ck_V (As := [.int t0_13]) (rest := []) (wc := mdW k b M) (wc' := mdW k b q_2) (w0' := mdW k b q_2) ⟨hx, hb, hml, hown, hts⟩ (c_X2_refused l D k b M t0_13 v_1 q_2 hv_3) (cwV 1 hts gX2_undo_X2_refused rfl rfl rfl (by decide +kernel) ⟨Nat.le_of_ble_eq_true rfl, Nat.le_of_ble_eq_true rfl⟩) hK hP hD hS hA (q0 := 0) (ci := 2) rfl rfl [0, 1, 2, 3, 4, 5, 6, 7, 8, 9] rfl (by decide) rfl rfl rfl hl.1 rfl (Nat.le_of_ble_eq_true rfl) dX2_undo_13 ⟨Nat.le_of_ble_eq_true rfl, Nat.le_of_ble_eq_true rfl⟩ (fun H locs hP hD hS => ?_)
    refine W.eq (g2 := F0 m 16 ls [.int v_1]) rfl ?_
    refine lv_if_eq (tgt := 21) hx hb dX2_undo_16 (by decide) (fun c_4 => ?_) (fun c_4 => ?_)
    · have h := it_l c_4 h
      refine lv_aload_n hx hb dX2_undo_21 rfl (lv_at hl 0 rfl) ?_
      refine lv_dup hx hb dX2_undo_22 rfl ?_
      refine va_get (D := D) (ci := 2) (v := .int (m_act q_2)) (C := RX2) (T := TX2) (N := 15) hx hb hts w_1 hown hK hP 0 rfl rfl 10 (by decide) w_0 (fun _ h9 => h9) rfl dX2_undo_23 ?_
      refine lv_iconst (v := 1) hx hb dX2_undo_26 (by decide) ?_
      refine lv_isub hx hb dX2_undo_27 ?_
      refine lv_topi (fun v_5 ev_5 => ?_)
      have h := nm_l h ev_5
      refine va_put (D := D) (ci := 2) (v := .int v_5) (ty := .int) (C := RX2) (T := TX2) (N := 15) hx hb hts w_1 tyX2 tyX2_ok nmX2 hown hK hP hD hS 0 rfl rfl 10 (by decide) w_0 (fun _ h9 => h9) rfl (by decide +kernel) rfl rfl (Nat.le_of_ble_eq_true rfl) dX2_undo_28 (fun H locs hP hD hS => ?_)
      obtain ⟨q_6, eq_6⟩ : ∃ y : MdV, y = mu_act q_2 v_5 := ⟨_, rfl⟩
      have hP : va_P D vwCl (mdW k b q_6) H := by rw [eq_6, ← md_set_act k b q_2 _]; exact hP
      have hD : va_D A (mdW k b q_6) := by rw [eq_6, ← md_set_act k b q_2 _]; exact hD
      have h := nm_l h eq_6
      refine lv_aload_n hx hb dX2_undo_31 rfl (lv_at hl 0 rfl) ?_
      refine va_get (D := D) (ci := 2) (v := .ref (b 5)) (C := RX2) (T := TX2) (N := 15) hx hb hts w_1 hown hK hP 0 rfl rfl 9 (by decide) w_2 (fun _ h9 => h9) rfl dX2_undo_32 ?_
      refine lv_bipush (v := 64) hx hb dX2_undo_35 (by decide) ?_
      refine lv_aload_n hx hb dX2_undo_37 rfl (lv_at hl 0 rfl) ?_
      refine va_get (D := D) (ci := 2) (v := .int (m_act q_6)) (C := RX2) (T := TX2) (N := 15) hx hb hts w_1 hown hK hP 0 rfl rfl 10 (by decide) w_0 (fun _ h9 => h9) rfl dX2_undo_38 ?_
      refine lv_imul hx hb dX2_undo_41 ?_
      refine lv_aload_n hx hb dX2_undo_42 rfl (lv_at hl 0 rfl) ?_
      refine va_get (D := D) (ci := 2) (v := .ref (b 3)) (C := RX2) (T := TX2) (N := 15) hx hb hts w_1 hown hK hP 0 rfl rfl 7 (by decide) w_3 (fun _ h9 => h9) rfl dX2_undo_43 ?_
      refine lv_iconst (v := 0) hx hb dX2_undo_46 (by decide) ?_
      refine lv_bipush (v := 64) hx hb dX2_undo_47 (by decide) ?_
      obtain ⟨q_7, hv_8, h⟩ := bd_l h
      obtain ⟨q_9, eq_9⟩ : ∃ y : MdV, y = mu_now q_6 q_7 := ⟨_, rfl⟩
      have h := nm_l h eq_9
      refine Ck_S (As := [.ref (b 5), .int (64 * (m_act q_6)), .ref (b 3), .int 0, .int 64]) (rest := []) (wc := [(b 5, .inl (k 0, 896, .inl (m_dia q_6)))] ++ [(b 3, .inl (k 0, 64, .inl (m_now q_6)))]) (wc' := [(b 5, .inl (k 0, 896, .inl (m_dia q_6)))] ++ [(b 3, .inl (k 0, 64, .inl q_7))]) (w0' := mdW k b q_9) ⟨hx, hb, hml, hown, hts⟩ (c_X2_copy l D k (b 5) (b 3) 896 64 (m_dia q_6) (m_now q_6) (64 * (m_act q_6)) 0 64 q_7 hv_8) (va_cwS 5 hts gX2_undo_X2_copy rfl rfl rfl (by decide +kernel) ⟨Nat.le_of_ble_eq_true rfl, Nat.le_of_ble_eq_true rfl⟩) hK hP hD hS hA [5, 3] rfl (by decide) rfl (by rw [eq_9]; simp only [va_sets, List.cons_append, List.nil_append, md_set_0, md_self_dia, md_set_now]) rfl hl.1 rfl (Nat.le_of_ble_eq_true rfl) dX2_undo_49 ⟨Nat.le_of_ble_eq_true rfl, Nat.le_of_ble_eq_true rfl⟩ (fun H locs hP hD hS => ?_)
      refine W.eq (g2 := F0 m 52 ls []) rfl ?_
      refine lv_aload_n hx hb dX2_undo_52 rfl (lv_at hl 0 rfl) ?_
      refine va_get (D := D) (ci := 2) (v := .int (m_act q_9)) (C := RX2) (T := TX2) (N := 15) hx hb hts w_1 hown hK hP 0 rfl rfl 10 (by decide) w_0 (fun _ h9 => h9) rfl dX2_undo_53 ?_
      cases h
      exact Ck_iret hx hb hr hP hD hS dX2_undo_56 hlocks
    · have h := it_r c_4 h
      refine lv_iconst (v := 0) hx hb dX2_undo_19 (by decide) ?_
      cases h
      exact Ck_iret hx hb hr hP hD hS dX2_undo_20 hlocks
  refine lv_aload_n hx hb dX2_undo_0 rfl (lv_at hl 0 rfl) ?_
  refine lv_aload_n hx hb dX2_undo_1 rfl (lv_at hl 0 rfl) ?_
  refine va_get (D := D) (ci := 2) (v := .int (m_act M)) (C := RX2) (T := TX2) (N := 15) hx hb hts w_1 hown hK hP 0 rfl rfl 10 (by decide) w_0 (fun _ h9 => h9) rfl dX2_undo_2 ?_
  refine lv_if_ne (tgt := 12) hx hb dX2_undo_5 (by decide) (fun c_10 => ?_) (fun c_10 => ?_)
  · have h := it_r c_10 h
    refine lv_iconst (v := 0) hx hb dX2_undo_12 (by decide) ?_
    exact hC_13 0 _ _ _ hP hD hS (lv_sub hl [0] rfl) h
  · have h := it_l c_10 h
    refine lv_iconst (v := 1) hx hb dX2_undo_8 (by decide) ?_
    refine lv_goto (tgt := 13) hx hb dX2_undo_9 (by decide) ?_
    exact hC_13 1 _ _ _ hP hD hS (lv_sub hl [0] rfl) h
def f_X2_ahead_42 (M : MdV) (p1 : Int32) (p2 : Int32) (p3 : Int32) (t0_42 : Int32) : Option (Int32 × MdV) := bd (f_X2_refused M t0_42) fun ⟨v_1, q_2⟩ => if v_1 = 0 then (bd (f_X2_copy 64 64 (m_now q_2) (m_tri q_2) 0 0 64) fun q_5 => nm (mu_tri q_2 q_5) fun q_7 => bd (f_X2_ticksOn q_7 (m_tri q_7) (m_flo q_7) (m_sal q_7) p2) fun ⟨v_8, q_9, q_10, q_11⟩ => nm (mu_sal (mu_flo (mu_tri q_7 q_9) q_10) q_11) fun q_13 => bd (f_X2_detail (m_tri q_13) p1 p3) fun v_14 => some (v_14, q_13)) else (some (0, q_2))
def f_X2_ahead_37 (M : MdV) (p1 : Int32) (p2 : Int32) (p3 : Int32) : Option (Int32 × MdV) := f_X2_ahead_42 M p1 p2 p3 2
def f_X2_ahead (M : MdV) (p1 : Int32) (p2 : Int32) (p3 : Int32) : Option (Int32 × MdV) := bd (f_X2_isEffect M p1) fun v_16 => if v_16 = 0 then (f_X2_ahead_42 M p1 p2 p3 1) else (bd (f_X2_in (p2.toInt64) 0 99) fun v_19 => if v_19 = 0 then (f_X2_ahead_37 M p1 p2 p3) else (bd (f_X2_in (p3.toInt64) 0 9) fun v_22 => if v_22 = 0 then (f_X2_ahead_37 M p1 p2 p3) else (f_X2_ahead_42 M p1 p2 p3 0)))
set_option maxRecDepth 100000 in
set_option maxHeartbeats 4000000 in
theorem c_X2_ahead (l : Launch) (D : va_G) (k : Nat → ClassId) (b : Nat → Nat) (M : MdV) (p1 : Int32) (p2 : Int32) (p3 : Int32) (o0 : Int32) (o1 : MdV) (h : f_X2_ahead M p1 p2 p3 = some (o0, o1)) : Ck l D (tyK k) yX2_ahead wsX2_ahead ({ frames := 5, cells := 0, slots := 0, locals := 118 } : Room) [.ref (b 0), .int p1, .int p2, .int p3] (mdW k b M) (some (.int o0)) (mdW k b o1) := by
  refine Ck_of (cc := cX2_ahead) (maxL := 4) (ret := (some .int)) (by decide) rfl (Nat.le_of_ble_eq_true rfl) ?_
  intro p e s m args below meth c A ls hx hb hr hml hts hown hlocks hK hA hP hD hS hl
  have hl : lv_has ls 4 [(0, .ref (b 0)), (1, .int p1), (2, .int p2), (3, .int p3)] := hl
  have hP : va_P D vwCl (mdW k b M) s.heap := hP
  have w_0 := hts (.fieldLink RX2 16 "EffectTrainModel" "now" "[I") (by decide +kernel)
  have w_1 : ∀ w ∈ wsX20, w ∈ wsX2_ahead := by decide +kernel
  have w_2 := hts (.fieldLink RX2 19 "EffectTrainModel" "trial" "[I") (by decide +kernel)
  have w_3 := hts (.constantLong RX2 139 (99)) (by decide +kernel)
  have w_4 := hts (.constantLong RX2 109 (9)) (by decide +kernel)
  unfold f_X2_ahead at h
  have hC_42 : ∀ (t0_42 : Int32) (H : Heap) (locs : List Loc) (ls : Array Slot), va_P D vwCl (mdW k b M) H → va_D A (mdW k b M) → va_S A s.heap H locs → lv_has ls 4 [(0, .ref (b 0)), (1, .int p1), (2, .int p2), (3, .int p3)] → f_X2_ahead_42 M p1 p2 p3 t0_42 = some (o0, o1) → W p l e ({ frames := 5, cells := 0, slots := 0, locals := 118 } : Room) s m args below meth c H locs 0 0 (MQ below (Qk D A (some (.int o0)) (mdW k b o1)) args s 0 0 A) (F0 m 42 ls [.int t0_42, .ref (b 0)]) := by
    intro t0_42 H locs ls hP hD hS hl h
    unfold f_X2_ahead_42 at h
    obtain ⟨⟨v_1, q_2⟩, hv_3, h⟩ := bd_l h
    refine Ck_V (As := [.int t0_42]) (rest := []) (wc := mdW k b M) (wc' := mdW k b q_2) (w0' := mdW k b q_2) ⟨hx, hb, hml, hown, hts⟩ (c_X2_refused l D k b M t0_42 v_1 q_2 hv_3) (cwV 1 hts gX2_ahead_X2_refused rfl rfl rfl (by decide +kernel) ⟨Nat.le_of_ble_eq_true rfl, Nat.le_of_ble_eq_true rfl⟩) hK hP hD hS hA (q0 := 0) (ci := 2) rfl rfl [0, 1, 2, 3, 4, 5, 6, 7, 8, 9] rfl (by decide) rfl rfl rfl hl.1 rfl (Nat.le_of_ble_eq_true rfl) dX2_ahead_42 ⟨Nat.le_of_ble_eq_true rfl, Nat.le_of_ble_eq_true rfl⟩ (fun H locs hP hD hS => ?_)
    refine W.eq (g2 := F0 m 45 ls [.int v_1]) rfl ?_
    refine lv_if_eq (tgt := 50) hx hb dX2_ahead_45 (by decide) (fun c_4 => ?_) (fun c_4 => ?_)
    · have h := it_l c_4 h
      refine lv_aload_n hx hb dX2_ahead_50 rfl (lv_at hl 0 rfl) ?_
      refine va_get (D := D) (ci := 2) (v := .ref (b 3)) (C := RX2) (T := TX2) (N := 15) hx hb hts w_1 hown hK hP 0 rfl rfl 7 (by decide) w_0 (fun _ h9 => h9) rfl dX2_ahead_51 ?_
      refine lv_iconst (v := 0) hx hb dX2_ahead_54 (by decide) ?_
      refine lv_aload_n hx hb dX2_ahead_55 rfl (lv_at hl 0 rfl) ?_
      refine va_get (D := D) (ci := 2) (v := .ref (b 4)) (C := RX2) (T := TX2) (N := 15) hx hb hts w_1 hown hK hP 0 rfl rfl 8 (by decide) w_2 (fun _ h9 => h9) rfl dX2_ahead_56 ?_
      refine lv_iconst (v := 0) hx hb dX2_ahead_59 (by decide) ?_
      refine lv_bipush (v := 64) hx hb dX2_ahead_60 (by decide) ?_
      obtain ⟨q_5, hv_6, h⟩ := bd_l h
      obtain ⟨q_7, eq_7⟩ : ∃ y : MdV, y = mu_tri q_2 q_5 := ⟨_, rfl⟩
      have h := nm_l h eq_7
      refine Ck_S (As := [.ref (b 3), .int 0, .ref (b 4), .int 0, .int 64]) (rest := []) (wc := [(b 3, .inl (k 0, 64, .inl (m_now q_2)))] ++ [(b 4, .inl (k 0, 64, .inl (m_tri q_2)))]) (wc' := [(b 3, .inl (k 0, 64, .inl (m_now q_2)))] ++ [(b 4, .inl (k 0, 64, .inl q_5))]) (w0' := mdW k b q_7) ⟨hx, hb, hml, hown, hts⟩ (c_X2_copy l D k (b 3) (b 4) 64 64 (m_now q_2) (m_tri q_2) 0 0 64 q_5 hv_6) (va_cwS 5 hts gX2_ahead_X2_copy rfl rfl rfl (by decide +kernel) ⟨Nat.le_of_ble_eq_true rfl, Nat.le_of_ble_eq_true rfl⟩) hK hP hD hS hA [3, 4] rfl (by decide) rfl (by rw [eq_7]; simp only [va_sets, List.cons_append, List.nil_append, md_set_0, md_self_now, md_set_tri]) rfl hl.1 rfl (Nat.le_of_ble_eq_true rfl) dX2_ahead_62 ⟨Nat.le_of_ble_eq_true rfl, Nat.le_of_ble_eq_true rfl⟩ (fun H locs hP hD hS => ?_)
      refine W.eq (g2 := F0 m 65 ls []) rfl ?_
      refine lv_aload_n hx hb dX2_ahead_65 rfl (lv_at hl 0 rfl) ?_
      refine lv_aload_n hx hb dX2_ahead_66 rfl (lv_at hl 0 rfl) ?_
      refine va_get (D := D) (ci := 2) (v := .ref (b 4)) (C := RX2) (T := TX2) (N := 15) hx hb hts w_1 hown hK hP 0 rfl rfl 8 (by decide) w_2 (fun _ h9 => h9) rfl dX2_ahead_67 ?_
      refine lv_iload_n hx hb dX2_ahead_70 rfl (lv_at hl 2 rfl) ?_
      obtain ⟨⟨v_8, q_9, q_10, q_11⟩, hv_12, h⟩ := bd_l h
      obtain ⟨q_13, eq_13⟩ : ∃ y : MdV, y = mu_sal (mu_flo (mu_tri q_7 q_9) q_10) q_11 := ⟨_, rfl⟩
      have h := nm_l h eq_13
      refine Ck_V (As := [.ref (b 4), .int p2]) (rest := []) (wc := [mdO b q_7] ++ [(b 4, .inl (k 0, 64, .inl (m_tri q_7)))] ++ [(b 8, .inl (k 0, 6, .inl (m_flo q_7)))] ++ [(b 9, .inl (k 0, 6, .inl (m_sal q_7)))]) (wc' := [mdO b q_7] ++ [(b 4, .inl (k 0, 64, .inl q_9))] ++ [(b 8, .inl (k 0, 6, .inl q_10))] ++ [(b 9, .inl (k 0, 6, .inl q_11))]) (w0' := mdW k b q_13) ⟨hx, hb, hml, hown, hts⟩ (c_X2_ticksOn l D k b (b 4) q_7 (m_tri q_7) (m_flo q_7) (m_sal q_7) p2 v_8 q_9 q_10 q_11 hv_12) (cwV 2 hts gX2_ahead_X2_ticksOn rfl rfl rfl (by decide +kernel) ⟨Nat.le_of_ble_eq_true rfl, Nat.le_of_ble_eq_true rfl⟩) hK hP hD hS hA (q0 := 0) (ci := 2) rfl rfl [0, 4, 8, 9] rfl (by decide) rfl (by rw [eq_13]; simp only [va_sets, List.cons_append, List.nil_append, md_set_0, md_set_tri, md_set_flo, md_set_sal]) rfl hl.1 rfl (Nat.le_of_ble_eq_true rfl) dX2_ahead_71 ⟨Nat.le_of_ble_eq_true rfl, Nat.le_of_ble_eq_true rfl⟩ (fun H locs hP hD hS => ?_)
      refine W.eq (g2 := F0 m 74 ls [.int v_8]) rfl ?_
      refine lv_pop hx hb dX2_ahead_74 rfl ?_
      refine lv_aload_n hx hb dX2_ahead_75 rfl (lv_at hl 0 rfl) ?_
      refine va_get (D := D) (ci := 2) (v := .ref (b 4)) (C := RX2) (T := TX2) (N := 15) hx hb hts w_1 hown hK hP 0 rfl rfl 8 (by decide) w_2 (fun _ h9 => h9) rfl dX2_ahead_76 ?_
      refine lv_iload_n hx hb dX2_ahead_79 rfl (lv_at hl 1 rfl) ?_
      refine lv_iload_n hx hb dX2_ahead_80 rfl (lv_at hl 3 rfl) ?_
      obtain ⟨v_14, hv_15, h⟩ := bd_l h
      refine Ck_S (As := [.ref (b 4), .int p1, .int p3]) (rest := []) (wc := [(b 4, .inl (k 0, 64, .inl (m_tri q_13)))]) (wc' := [(b 4, .inl (k 0, 64, .inl (m_tri q_13)))]) (w0' := mdW k b q_13) ⟨hx, hb, hml, hown, hts⟩ (c_X2_detail l D k (b 4) (m_tri q_13) p1 p3 v_14 hv_15) (va_cwS 3 hts gX2_ahead_X2_detail rfl rfl rfl (by decide +kernel) ⟨Nat.le_of_ble_eq_true rfl, Nat.le_of_ble_eq_true rfl⟩) hK hP hD hS hA [4] rfl (by decide) rfl rfl rfl hl.1 rfl (Nat.le_of_ble_eq_true rfl) dX2_ahead_81 ⟨Nat.le_of_ble_eq_true rfl, Nat.le_of_ble_eq_true rfl⟩ (fun H locs hP hD hS => ?_)
      refine W.eq (g2 := F0 m 84 ls [.int v_14]) rfl ?_
      cases h
      exact Ck_iret hx hb hr hP hD hS dX2_ahead_84 hlocks
    · have h := it_r c_4 h
      refine lv_iconst (v := 0) hx hb dX2_ahead_48 (by decide) ?_
      cases h
      exact Ck_iret hx hb hr hP hD hS dX2_ahead_49 hlocks
  have hC_37 : ∀ (H : Heap) (locs : List Loc) (ls : Array Slot), va_P D vwCl (mdW k b M) H → va_D A (mdW k b M) → va_S A s.heap H locs → lv_has ls 4 [(0, .ref (b 0)), (1, .int p1), (2, .int p2), (3, .int p3)] → f_X2_ahead_37 M p1 p2 p3  = some (o0, o1) → W p l e ({ frames := 5, cells := 0, slots := 0, locals := 118 } : Room) s m args below meth c H locs 0 0 (MQ below (Qk D A (some (.int o0)) (mdW k b o1)) args s 0 0 A) (F0 m 37 ls [.ref (b 0)]) := by
    intro  H locs ls hP hD hS hl h
    unfold f_X2_ahead_37 at h
    refine lv_iconst (v := 2) hx hb dX2_ahead_37 (by decide) ?_
    refine lv_goto (tgt := 42) hx hb dX2_ahead_38 (by decide) ?_
    exact hC_42 2 _ _ _ hP hD hS (lv_sub hl [0, 1, 2, 3] rfl) h
  refine lv_aload_n hx hb dX2_ahead_0 rfl (lv_at hl 0 rfl) ?_
  refine lv_aload_n hx hb dX2_ahead_1 rfl (lv_at hl 0 rfl) ?_
  refine lv_iload_n hx hb dX2_ahead_2 rfl (lv_at hl 1 rfl) ?_
  obtain ⟨v_16, hv_17, h⟩ := bd_l h
  refine Ck_V (As := [.int p1]) (rest := [.ref (b 0)]) (wc := [mdO b M]) (wc' := [mdO b M]) (w0' := mdW k b M) ⟨hx, hb, hml, hown, hts⟩ (c_X2_isEffect l D k b M p1 v_16 hv_17) (cwV 1 hts gX2_ahead_X2_isEffect rfl rfl rfl (by decide +kernel) ⟨Nat.le_of_ble_eq_true rfl, Nat.le_of_ble_eq_true rfl⟩) hK hP hD hS hA (q0 := 0) (ci := 2) rfl rfl [0] rfl (by decide) rfl rfl rfl hl.1 rfl (Nat.le_of_ble_eq_true rfl) dX2_ahead_3 ⟨Nat.le_of_ble_eq_true rfl, Nat.le_of_ble_eq_true rfl⟩ (fun H locs hP hD hS => ?_)
  refine W.eq (g2 := F0 m 6 ls [.int v_16, .ref (b 0)]) rfl ?_
  refine lv_if_ne (tgt := 13) hx hb dX2_ahead_6 (by decide) (fun c_18 => ?_) (fun c_18 => ?_)
  · have h := it_r c_18 h
    refine lv_iload_n hx hb dX2_ahead_13 rfl (lv_at hl 2 rfl) ?_
    refine lv_i2l hx hb dX2_ahead_14 rfl ?_
    refine lv_lconst (v := 0) hx hb dX2_ahead_15 (by decide) ?_
    refine lv_ldc2 (v := 99) hx hb hown w_3 dX2_ahead_16 ?_
    obtain ⟨v_19, hv_20, h⟩ := bd_l h
    refine Ck_S (As := [.long (p2.toInt64), .long 0, .long 99]) (rest := [.ref (b 0)]) (wc := ([] : va_W)) (wc' := ([] : va_W)) (w0' := mdW k b M) ⟨hx, hb, hml, hown, hts⟩ (c_X2_in l D k  (p2.toInt64) 0 99 v_19 hv_20) (va_cwS 3 hts gX2_ahead_X2_in rfl rfl rfl (by decide +kernel) ⟨Nat.le_of_ble_eq_true rfl, Nat.le_of_ble_eq_true rfl⟩) hK hP hD hS hA [] rfl (by decide) rfl rfl rfl hl.1 rfl (Nat.le_of_ble_eq_true rfl) dX2_ahead_19 ⟨Nat.le_of_ble_eq_true rfl, Nat.le_of_ble_eq_true rfl⟩ (fun H locs hP hD hS => ?_)
    refine W.eq (g2 := F0 m 22 ls [.int v_19, .ref (b 0)]) rfl ?_
    refine lv_if_eq (tgt := 37) hx hb dX2_ahead_22 (by decide) (fun c_21 => ?_) (fun c_21 => ?_)
    · have h := it_l c_21 h
      exact hC_37  _ _ _ hP hD hS (lv_sub hl [0, 1, 2, 3] rfl) h
    · have h := it_r c_21 h
      refine lv_iload_n hx hb dX2_ahead_25 rfl (lv_at hl 3 rfl) ?_
      refine lv_i2l hx hb dX2_ahead_26 rfl ?_
      refine lv_lconst (v := 0) hx hb dX2_ahead_27 (by decide) ?_
      refine lv_ldc2 (v := 9) hx hb hown w_4 dX2_ahead_28 ?_
      obtain ⟨v_22, hv_23, h⟩ := bd_l h
      refine Ck_S (As := [.long (p3.toInt64), .long 0, .long 9]) (rest := [.ref (b 0)]) (wc := ([] : va_W)) (wc' := ([] : va_W)) (w0' := mdW k b M) ⟨hx, hb, hml, hown, hts⟩ (c_X2_in l D k  (p3.toInt64) 0 9 v_22 hv_23) (va_cwS 3 hts gX2_ahead_X2_in rfl rfl rfl (by decide +kernel) ⟨Nat.le_of_ble_eq_true rfl, Nat.le_of_ble_eq_true rfl⟩) hK hP hD hS hA [] rfl (by decide) rfl rfl rfl hl.1 rfl (Nat.le_of_ble_eq_true rfl) dX2_ahead_31 ⟨Nat.le_of_ble_eq_true rfl, Nat.le_of_ble_eq_true rfl⟩ (fun H locs hP hD hS => ?_)
      refine W.eq (g2 := F0 m 34 ls [.int v_22, .ref (b 0)]) rfl ?_
      refine lv_if_ne (tgt := 41) hx hb dX2_ahead_34 (by decide) (fun c_24 => ?_) (fun c_24 => ?_)
      · have h := it_r c_24 h
        refine lv_iconst (v := 0) hx hb dX2_ahead_41 (by decide) ?_
        exact hC_42 0 _ _ _ hP hD hS (lv_sub hl [0, 1, 2, 3] rfl) h
      · have h := it_l c_24 h
        exact hC_37  _ _ _ hP hD hS (lv_sub hl [0, 1, 2, 3] rfl) h
  · have h := it_l c_18 h
    refine lv_iconst (v := 1) hx hb dX2_ahead_9 (by decide) ?_
    refine lv_goto (tgt := 42) hx hb dX2_ahead_10 (by decide) ?_
    exact hC_42 1 _ _ _ hP hD hS (lv_sub hl [0, 1, 2, 3] rfl) h
def f_X2_growth_30 (M : MdV) (p1 : Int32) (p2 : Int32) (t0_30 : Int32) : Option (Int32 × MdV) := bd (f_X2_refused M t0_30) fun ⟨v_1, q_2⟩ => if v_1 = 0 then (bd (f_X2_copy 64 64 (m_now q_2) (m_tri q_2) 0 0 64) fun q_5 => nm (mu_tri q_2 q_5) fun q_7 => bd (f_X2_ticksOn q_7 (m_tri q_7) (m_flo q_7) (m_sal q_7) p1) fun ⟨v_8, q_9, q_10, q_11⟩ => nm (mu_sal (mu_flo (mu_tri q_7 q_9) q_10) q_11) fun q_13 => gb (inb (54 + p2) 64) <| gb (inb (54 + p2) 64) <| some ((((m_tri q_13) (54 + p2).toNatClampNeg) - ((m_now q_13) (54 + p2).toNatClampNeg)), q_13)) else (some (0, q_2))
def f_X2_growth_29 (M : MdV) (p1 : Int32) (p2 : Int32) : Option (Int32 × MdV) := f_X2_growth_30 M p1 p2 1
def f_X2_growth (M : MdV) (p1 : Int32) (p2 : Int32) : Option (Int32 × MdV) := bd (f_X2_in (p1.toInt64) 1 99) fun v_16 => if v_16 = 0 then (f_X2_growth_29 M p1 p2) else (bd (f_X2_in (p2.toInt64) 0 9) fun v_19 => if v_19 = 0 then (f_X2_growth_29 M p1 p2) else (f_X2_growth_30 M p1 p2 0))
set_option maxRecDepth 100000 in
set_option maxHeartbeats 4000000 in
theorem c_X2_growth (l : Launch) (D : va_G) (k : Nat → ClassId) (b : Nat → Nat) (M : MdV) (p1 : Int32) (p2 : Int32) (o0 : Int32) (o1 : MdV) (h : f_X2_growth M p1 p2 = some (o0, o1)) : Ck l D (tyK k) yX2_growth wsX2_growth ({ frames := 5, cells := 0, slots := 0, locals := 118 } : Room) [.ref (b 0), .int p1, .int p2] (mdW k b M) (some (.int o0)) (mdW k b o1) := by
  refine Ck_of (cc := cX2_growth) (maxL := 3) (ret := (some .int)) (by decide) rfl (Nat.le_of_ble_eq_true rfl) ?_
  intro p e s m args below meth c A ls hx hb hr hml hts hown hlocks hK hA hP hD hS hl
  have hl : lv_has ls 3 [(0, .ref (b 0)), (1, .int p1), (2, .int p2)] := hl
  have hP : va_P D vwCl (mdW k b M) s.heap := hP
  have w_0 := hts (.fieldLink RX2 16 "EffectTrainModel" "now" "[I") (by decide +kernel)
  have w_1 : ∀ w ∈ wsX20, w ∈ wsX2_growth := by decide +kernel
  have w_2 := hts (.fieldLink RX2 19 "EffectTrainModel" "trial" "[I") (by decide +kernel)
  have w_3 := hts (.constantLong RX2 139 (99)) (by decide +kernel)
  have w_4 := hts (.constantLong RX2 109 (9)) (by decide +kernel)
  unfold f_X2_growth at h
  have hC_30 : ∀ (t0_30 : Int32) (H : Heap) (locs : List Loc) (ls : Array Slot), va_P D vwCl (mdW k b M) H → va_D A (mdW k b M) → va_S A s.heap H locs → lv_has ls 3 [(0, .ref (b 0)), (1, .int p1), (2, .int p2)] → f_X2_growth_30 M p1 p2 t0_30 = some (o0, o1) → W p l e ({ frames := 5, cells := 0, slots := 0, locals := 118 } : Room) s m args below meth c H locs 0 0 (MQ below (Qk D A (some (.int o0)) (mdW k b o1)) args s 0 0 A) (F0 m 30 ls [.int t0_30, .ref (b 0)]) := by
    intro t0_30 H locs ls hP hD hS hl h
    unfold f_X2_growth_30 at h
    obtain ⟨⟨v_1, q_2⟩, hv_3, h⟩ := bd_l h
    refine Ck_V (As := [.int t0_30]) (rest := []) (wc := mdW k b M) (wc' := mdW k b q_2) (w0' := mdW k b q_2) ⟨hx, hb, hml, hown, hts⟩ (c_X2_refused l D k b M t0_30 v_1 q_2 hv_3) (cwV 1 hts gX2_growth_X2_refused rfl rfl rfl (by decide +kernel) ⟨Nat.le_of_ble_eq_true rfl, Nat.le_of_ble_eq_true rfl⟩) hK hP hD hS hA (q0 := 0) (ci := 2) rfl rfl [0, 1, 2, 3, 4, 5, 6, 7, 8, 9] rfl (by decide) rfl rfl rfl hl.1 rfl (Nat.le_of_ble_eq_true rfl) dX2_growth_30 ⟨Nat.le_of_ble_eq_true rfl, Nat.le_of_ble_eq_true rfl⟩ (fun H locs hP hD hS => ?_)
    refine W.eq (g2 := F0 m 33 ls [.int v_1]) rfl ?_
    refine lv_if_eq (tgt := 38) hx hb dX2_growth_33 (by decide) (fun c_4 => ?_) (fun c_4 => ?_)
    · have h := it_l c_4 h
      refine lv_aload_n hx hb dX2_growth_38 rfl (lv_at hl 0 rfl) ?_
      refine va_get (D := D) (ci := 2) (v := .ref (b 3)) (C := RX2) (T := TX2) (N := 15) hx hb hts w_1 hown hK hP 0 rfl rfl 7 (by decide) w_0 (fun _ h9 => h9) rfl dX2_growth_39 ?_
      refine lv_iconst (v := 0) hx hb dX2_growth_42 (by decide) ?_
      refine lv_aload_n hx hb dX2_growth_43 rfl (lv_at hl 0 rfl) ?_
      refine va_get (D := D) (ci := 2) (v := .ref (b 4)) (C := RX2) (T := TX2) (N := 15) hx hb hts w_1 hown hK hP 0 rfl rfl 8 (by decide) w_2 (fun _ h9 => h9) rfl dX2_growth_44 ?_
      refine lv_iconst (v := 0) hx hb dX2_growth_47 (by decide) ?_
      refine lv_bipush (v := 64) hx hb dX2_growth_48 (by decide) ?_
      obtain ⟨q_5, hv_6, h⟩ := bd_l h
      obtain ⟨q_7, eq_7⟩ : ∃ y : MdV, y = mu_tri q_2 q_5 := ⟨_, rfl⟩
      have h := nm_l h eq_7
      refine Ck_S (As := [.ref (b 3), .int 0, .ref (b 4), .int 0, .int 64]) (rest := []) (wc := [(b 3, .inl (k 0, 64, .inl (m_now q_2)))] ++ [(b 4, .inl (k 0, 64, .inl (m_tri q_2)))]) (wc' := [(b 3, .inl (k 0, 64, .inl (m_now q_2)))] ++ [(b 4, .inl (k 0, 64, .inl q_5))]) (w0' := mdW k b q_7) ⟨hx, hb, hml, hown, hts⟩ (c_X2_copy l D k (b 3) (b 4) 64 64 (m_now q_2) (m_tri q_2) 0 0 64 q_5 hv_6) (va_cwS 5 hts gX2_growth_X2_copy rfl rfl rfl (by decide +kernel) ⟨Nat.le_of_ble_eq_true rfl, Nat.le_of_ble_eq_true rfl⟩) hK hP hD hS hA [3, 4] rfl (by decide) rfl (by rw [eq_7]; simp only [va_sets, List.cons_append, List.nil_append, md_set_0, md_self_now, md_set_tri]) rfl hl.1 rfl (Nat.le_of_ble_eq_true rfl) dX2_growth_50 ⟨Nat.le_of_ble_eq_true rfl, Nat.le_of_ble_eq_true rfl⟩ (fun H locs hP hD hS => ?_)
      refine W.eq (g2 := F0 m 53 ls []) rfl ?_
      refine lv_aload_n hx hb dX2_growth_53 rfl (lv_at hl 0 rfl) ?_
      refine lv_aload_n hx hb dX2_growth_54 rfl (lv_at hl 0 rfl) ?_
      refine va_get (D := D) (ci := 2) (v := .ref (b 4)) (C := RX2) (T := TX2) (N := 15) hx hb hts w_1 hown hK hP 0 rfl rfl 8 (by decide) w_2 (fun _ h9 => h9) rfl dX2_growth_55 ?_
      refine lv_iload_n hx hb dX2_growth_58 rfl (lv_at hl 1 rfl) ?_
      obtain ⟨⟨v_8, q_9, q_10, q_11⟩, hv_12, h⟩ := bd_l h
      obtain ⟨q_13, eq_13⟩ : ∃ y : MdV, y = mu_sal (mu_flo (mu_tri q_7 q_9) q_10) q_11 := ⟨_, rfl⟩
      have h := nm_l h eq_13
      refine Ck_V (As := [.ref (b 4), .int p1]) (rest := []) (wc := [mdO b q_7] ++ [(b 4, .inl (k 0, 64, .inl (m_tri q_7)))] ++ [(b 8, .inl (k 0, 6, .inl (m_flo q_7)))] ++ [(b 9, .inl (k 0, 6, .inl (m_sal q_7)))]) (wc' := [mdO b q_7] ++ [(b 4, .inl (k 0, 64, .inl q_9))] ++ [(b 8, .inl (k 0, 6, .inl q_10))] ++ [(b 9, .inl (k 0, 6, .inl q_11))]) (w0' := mdW k b q_13) ⟨hx, hb, hml, hown, hts⟩ (c_X2_ticksOn l D k b (b 4) q_7 (m_tri q_7) (m_flo q_7) (m_sal q_7) p1 v_8 q_9 q_10 q_11 hv_12) (cwV 2 hts gX2_growth_X2_ticksOn rfl rfl rfl (by decide +kernel) ⟨Nat.le_of_ble_eq_true rfl, Nat.le_of_ble_eq_true rfl⟩) hK hP hD hS hA (q0 := 0) (ci := 2) rfl rfl [0, 4, 8, 9] rfl (by decide) rfl (by rw [eq_13]; simp only [va_sets, List.cons_append, List.nil_append, md_set_0, md_set_tri, md_set_flo, md_set_sal]) rfl hl.1 rfl (Nat.le_of_ble_eq_true rfl) dX2_growth_59 ⟨Nat.le_of_ble_eq_true rfl, Nat.le_of_ble_eq_true rfl⟩ (fun H locs hP hD hS => ?_)
      refine W.eq (g2 := F0 m 62 ls [.int v_8]) rfl ?_
      refine lv_pop hx hb dX2_growth_62 rfl ?_
      refine lv_aload_n hx hb dX2_growth_63 rfl (lv_at hl 0 rfl) ?_
      refine va_get (D := D) (ci := 2) (v := .ref (b 4)) (C := RX2) (T := TX2) (N := 15) hx hb hts w_1 hown hK hP 0 rfl rfl 8 (by decide) w_2 (fun _ h9 => h9) rfl dX2_growth_64 ?_
      refine lv_bipush (v := 54) hx hb dX2_growth_67 (by decide) ?_
      refine lv_iload_n hx hb dX2_growth_69 rfl (lv_at hl 2 rfl) ?_
      refine lv_iadd hx hb dX2_growth_70 ?_
      have g_14 := inb_vp (gb_l h)
      have h := gb_r h
      refine va_iald hx hb hK hP 4 0 rfl rfl g_14 dX2_growth_71 ?_
      refine lv_aload_n hx hb dX2_growth_72 rfl (lv_at hl 0 rfl) ?_
      refine va_get (D := D) (ci := 2) (v := .ref (b 3)) (C := RX2) (T := TX2) (N := 15) hx hb hts w_1 hown hK hP 0 rfl rfl 7 (by decide) w_0 (fun _ h9 => h9) rfl dX2_growth_73 ?_
      refine lv_bipush (v := 54) hx hb dX2_growth_76 (by decide) ?_
      refine lv_iload_n hx hb dX2_growth_78 rfl (lv_at hl 2 rfl) ?_
      refine lv_iadd hx hb dX2_growth_79 ?_
      have g_15 := inb_vp (gb_l h)
      have h := gb_r h
      refine va_iald hx hb hK hP 3 0 rfl rfl g_15 dX2_growth_80 ?_
      refine lv_isub hx hb dX2_growth_81 ?_
      cases h
      exact Ck_iret hx hb hr hP hD hS dX2_growth_82 hlocks
    · have h := it_r c_4 h
      refine lv_iconst (v := 0) hx hb dX2_growth_36 (by decide) ?_
      cases h
      exact Ck_iret hx hb hr hP hD hS dX2_growth_37 hlocks
  have hC_29 : ∀ (H : Heap) (locs : List Loc) (ls : Array Slot), va_P D vwCl (mdW k b M) H → va_D A (mdW k b M) → va_S A s.heap H locs → lv_has ls 3 [(0, .ref (b 0)), (1, .int p1), (2, .int p2)] → f_X2_growth_29 M p1 p2  = some (o0, o1) → W p l e ({ frames := 5, cells := 0, slots := 0, locals := 118 } : Room) s m args below meth c H locs 0 0 (MQ below (Qk D A (some (.int o0)) (mdW k b o1)) args s 0 0 A) (F0 m 29 ls [.ref (b 0)]) := by
    intro  H locs ls hP hD hS hl h
    unfold f_X2_growth_29 at h
    refine lv_iconst (v := 1) hx hb dX2_growth_29 (by decide) ?_
    exact hC_30 1 _ _ _ hP hD hS (lv_sub hl [0, 1, 2] rfl) h
  refine lv_aload_n hx hb dX2_growth_0 rfl (lv_at hl 0 rfl) ?_
  refine lv_iload_n hx hb dX2_growth_1 rfl (lv_at hl 1 rfl) ?_
  refine lv_i2l hx hb dX2_growth_2 rfl ?_
  refine lv_lconst (v := 1) hx hb dX2_growth_3 (by decide) ?_
  refine lv_ldc2 (v := 99) hx hb hown w_3 dX2_growth_4 ?_
  obtain ⟨v_16, hv_17, h⟩ := bd_l h
  refine Ck_S (As := [.long (p1.toInt64), .long 1, .long 99]) (rest := [.ref (b 0)]) (wc := ([] : va_W)) (wc' := ([] : va_W)) (w0' := mdW k b M) ⟨hx, hb, hml, hown, hts⟩ (c_X2_in l D k  (p1.toInt64) 1 99 v_16 hv_17) (va_cwS 3 hts gX2_growth_X2_in rfl rfl rfl (by decide +kernel) ⟨Nat.le_of_ble_eq_true rfl, Nat.le_of_ble_eq_true rfl⟩) hK hP hD hS hA [] rfl (by decide) rfl rfl rfl hl.1 rfl (Nat.le_of_ble_eq_true rfl) dX2_growth_7 ⟨Nat.le_of_ble_eq_true rfl, Nat.le_of_ble_eq_true rfl⟩ (fun H locs hP hD hS => ?_)
  refine W.eq (g2 := F0 m 10 ls [.int v_16, .ref (b 0)]) rfl ?_
  refine lv_if_eq (tgt := 29) hx hb dX2_growth_10 (by decide) (fun c_18 => ?_) (fun c_18 => ?_)
  · have h := it_l c_18 h
    exact hC_29  _ _ _ hP hD hS (lv_sub hl [0, 1, 2] rfl) h
  · have h := it_r c_18 h
    refine lv_iload_n hx hb dX2_growth_13 rfl (lv_at hl 2 rfl) ?_
    refine lv_i2l hx hb dX2_growth_14 rfl ?_
    refine lv_lconst (v := 0) hx hb dX2_growth_15 (by decide) ?_
    refine lv_ldc2 (v := 9) hx hb hown w_4 dX2_growth_16 ?_
    obtain ⟨v_19, hv_20, h⟩ := bd_l h
    refine Ck_S (As := [.long (p2.toInt64), .long 0, .long 9]) (rest := [.ref (b 0)]) (wc := ([] : va_W)) (wc' := ([] : va_W)) (w0' := mdW k b M) ⟨hx, hb, hml, hown, hts⟩ (c_X2_in l D k  (p2.toInt64) 0 9 v_19 hv_20) (va_cwS 3 hts gX2_growth_X2_in rfl rfl rfl (by decide +kernel) ⟨Nat.le_of_ble_eq_true rfl, Nat.le_of_ble_eq_true rfl⟩) hK hP hD hS hA [] rfl (by decide) rfl rfl rfl hl.1 rfl (Nat.le_of_ble_eq_true rfl) dX2_growth_19 ⟨Nat.le_of_ble_eq_true rfl, Nat.le_of_ble_eq_true rfl⟩ (fun H locs hP hD hS => ?_)
    refine W.eq (g2 := F0 m 22 ls [.int v_19, .ref (b 0)]) rfl ?_
    refine lv_if_eq (tgt := 29) hx hb dX2_growth_22 (by decide) (fun c_21 => ?_) (fun c_21 => ?_)
    · have h := it_l c_21 h
      exact hC_29  _ _ _ hP hD hS (lv_sub hl [0, 1, 2] rfl) h
    · have h := it_r c_21 h
      refine lv_iconst (v := 0) hx hb dX2_growth_25 (by decide) ?_
      refine lv_goto (tgt := 30) hx hb dX2_growth_26 (by decide) ?_
      exact hC_30 0 _ _ _ hP hD hS (lv_sub hl [0, 1, 2] rfl) h
def f_X2_washGain_57 (M : MdV) (p1 : Int32) (p2 : Int32) (p3 : Int32) (t0_57 : Int32) : Option (Int32 × MdV) := bd (f_X2_refused M t0_57) fun ⟨v_1, q_2⟩ => if v_1 = 0 then (bd (f_X2_copy 64 64 (m_now q_2) (m_tri q_2) 0 0 64) fun q_5 => nm (mu_tri q_2 q_5) fun q_7 => bd (f_X2_ticksOn q_7 (m_tri q_7) (m_flo q_7) (m_sal q_7) p3) fun ⟨v_8, q_9, q_10, q_11⟩ => nm (mu_sal (mu_flo (mu_tri q_7 q_9) q_10) q_11) fun q_13 => bd (f_X2_copy 64 64 (m_now q_13) (m_tri q_13) 0 0 64) fun q_14 => nm (mu_tri q_13 q_14) fun q_16 => gb (inb (42 + p1) 64) <| nm (mu_tri q_16 (upd (m_tri q_16) (42 + p1).toNatClampNeg p2)) fun q_18 => bd (f_X2_ticksOn q_18 (m_tri q_18) (m_flo q_18) (m_sal q_18) p3) fun ⟨v_19, q_20, q_21, q_22⟩ => nm (mu_sal (mu_flo (mu_tri q_18 q_20) q_21) q_22) fun q_24 => some ((v_19 - v_8), q_24)) else (some (0, q_2))
def f_X2_washGain_37 (M : MdV) (p1 : Int32) (p2 : Int32) (p3 : Int32) : Option (Int32 × MdV) := f_X2_washGain_57 M p1 p2 p3 2
def f_X2_washGain (M : MdV) (p1 : Int32) (p2 : Int32) (p3 : Int32) : Option (Int32 × MdV) := bd (f_X2_isEffect M p1) fun v_25 => if v_25 = 0 then (f_X2_washGain_57 M p1 p2 p3 1) else (bd (f_X2_in (p2.toInt64) 1 20) fun v_28 => if v_28 = 0 then (f_X2_washGain_37 M p1 p2 p3) else (bd (f_X2_in (p3.toInt64) 1 99) fun v_31 => if v_31 = 0 then (f_X2_washGain_37 M p1 p2 p3) else (bd (f_X2_works (m_now M) p1) fun v_34 => if v_34 = 0 then (f_X2_washGain_57 M p1 p2 p3 3) else (f_X2_washGain_57 M p1 p2 p3 0))))
set_option maxRecDepth 100000 in
set_option maxHeartbeats 4000000 in
theorem c_X2_washGain (l : Launch) (D : va_G) (k : Nat → ClassId) (b : Nat → Nat) (M : MdV) (p1 : Int32) (p2 : Int32) (p3 : Int32) (o0 : Int32) (o1 : MdV) (h : f_X2_washGain M p1 p2 p3 = some (o0, o1)) : Ck l D (tyK k) yX2_washGain wsX2_washGain ({ frames := 5, cells := 0, slots := 0, locals := 118 } : Room) [.ref (b 0), .int p1, .int p2, .int p3] (mdW k b M) (some (.int o0)) (mdW k b o1) := by
  refine Ck_of (cc := cX2_washGain) (maxL := 5) (ret := (some .int)) (by decide) rfl (Nat.le_of_ble_eq_true rfl) ?_
  intro p e s m args below meth c A ls hx hb hr hml hts hown hlocks hK hA hP hD hS hl
  have hl : lv_has ls 5 [(0, .ref (b 0)), (1, .int p1), (2, .int p2), (3, .int p3)] := hl
  have hP : va_P D vwCl (mdW k b M) s.heap := hP
  have w_0 := hts (.fieldLink RX2 16 "EffectTrainModel" "now" "[I") (by decide +kernel)
  have w_1 : ∀ w ∈ wsX20, w ∈ wsX2_washGain := by decide +kernel
  have w_2 := hts (.fieldLink RX2 19 "EffectTrainModel" "trial" "[I") (by decide +kernel)
  have w_3 := hts (.constantLong RX2 149 (20)) (by decide +kernel)
  have w_4 := hts (.constantLong RX2 139 (99)) (by decide +kernel)
  unfold f_X2_washGain at h
  have hC_57 : ∀ (t0_57 : Int32) (H : Heap) (locs : List Loc) (ls : Array Slot), va_P D vwCl (mdW k b M) H → va_D A (mdW k b M) → va_S A s.heap H locs → lv_has ls 5 [(0, .ref (b 0)), (1, .int p1), (2, .int p2), (3, .int p3)] → f_X2_washGain_57 M p1 p2 p3 t0_57 = some (o0, o1) → W p l e ({ frames := 5, cells := 0, slots := 0, locals := 118 } : Room) s m args below meth c H locs 0 0 (MQ below (Qk D A (some (.int o0)) (mdW k b o1)) args s 0 0 A) (F0 m 57 ls [.int t0_57, .ref (b 0)]) := by
    intro t0_57 H locs ls hP hD hS hl h
    unfold f_X2_washGain_57 at h
    obtain ⟨⟨v_1, q_2⟩, hv_3, h⟩ := bd_l h
    refine Ck_V (As := [.int t0_57]) (rest := []) (wc := mdW k b M) (wc' := mdW k b q_2) (w0' := mdW k b q_2) ⟨hx, hb, hml, hown, hts⟩ (c_X2_refused l D k b M t0_57 v_1 q_2 hv_3) (cwV 1 hts gX2_washGain_X2_refused rfl rfl rfl (by decide +kernel) ⟨Nat.le_of_ble_eq_true rfl, Nat.le_of_ble_eq_true rfl⟩) hK hP hD hS hA (q0 := 0) (ci := 2) rfl rfl [0, 1, 2, 3, 4, 5, 6, 7, 8, 9] rfl (by decide) rfl rfl rfl hl.1 rfl (Nat.le_of_ble_eq_true rfl) dX2_washGain_57 ⟨Nat.le_of_ble_eq_true rfl, Nat.le_of_ble_eq_true rfl⟩ (fun H locs hP hD hS => ?_)
    refine W.eq (g2 := F0 m 60 ls [.int v_1]) rfl ?_
    refine lv_if_eq (tgt := 65) hx hb dX2_washGain_60 (by decide) (fun c_4 => ?_) (fun c_4 => ?_)
    · have h := it_l c_4 h
      refine lv_aload_n hx hb dX2_washGain_65 rfl (lv_at hl 0 rfl) ?_
      refine va_get (D := D) (ci := 2) (v := .ref (b 3)) (C := RX2) (T := TX2) (N := 15) hx hb hts w_1 hown hK hP 0 rfl rfl 7 (by decide) w_0 (fun _ h9 => h9) rfl dX2_washGain_66 ?_
      refine lv_iconst (v := 0) hx hb dX2_washGain_69 (by decide) ?_
      refine lv_aload_n hx hb dX2_washGain_70 rfl (lv_at hl 0 rfl) ?_
      refine va_get (D := D) (ci := 2) (v := .ref (b 4)) (C := RX2) (T := TX2) (N := 15) hx hb hts w_1 hown hK hP 0 rfl rfl 8 (by decide) w_2 (fun _ h9 => h9) rfl dX2_washGain_71 ?_
      refine lv_iconst (v := 0) hx hb dX2_washGain_74 (by decide) ?_
      refine lv_bipush (v := 64) hx hb dX2_washGain_75 (by decide) ?_
      obtain ⟨q_5, hv_6, h⟩ := bd_l h
      obtain ⟨q_7, eq_7⟩ : ∃ y : MdV, y = mu_tri q_2 q_5 := ⟨_, rfl⟩
      have h := nm_l h eq_7
      refine Ck_S (As := [.ref (b 3), .int 0, .ref (b 4), .int 0, .int 64]) (rest := []) (wc := [(b 3, .inl (k 0, 64, .inl (m_now q_2)))] ++ [(b 4, .inl (k 0, 64, .inl (m_tri q_2)))]) (wc' := [(b 3, .inl (k 0, 64, .inl (m_now q_2)))] ++ [(b 4, .inl (k 0, 64, .inl q_5))]) (w0' := mdW k b q_7) ⟨hx, hb, hml, hown, hts⟩ (c_X2_copy l D k (b 3) (b 4) 64 64 (m_now q_2) (m_tri q_2) 0 0 64 q_5 hv_6) (va_cwS 5 hts gX2_washGain_X2_copy rfl rfl rfl (by decide +kernel) ⟨Nat.le_of_ble_eq_true rfl, Nat.le_of_ble_eq_true rfl⟩) hK hP hD hS hA [3, 4] rfl (by decide) rfl (by rw [eq_7]; simp only [va_sets, List.cons_append, List.nil_append, md_set_0, md_self_now, md_set_tri]) rfl hl.1 rfl (Nat.le_of_ble_eq_true rfl) dX2_washGain_77 ⟨Nat.le_of_ble_eq_true rfl, Nat.le_of_ble_eq_true rfl⟩ (fun H locs hP hD hS => ?_)
      refine W.eq (g2 := F0 m 80 ls []) rfl ?_
      refine lv_aload_n hx hb dX2_washGain_80 rfl (lv_at hl 0 rfl) ?_
      refine lv_aload_n hx hb dX2_washGain_81 rfl (lv_at hl 0 rfl) ?_
      refine va_get (D := D) (ci := 2) (v := .ref (b 4)) (C := RX2) (T := TX2) (N := 15) hx hb hts w_1 hown hK hP 0 rfl rfl 8 (by decide) w_2 (fun _ h9 => h9) rfl dX2_washGain_82 ?_
      refine lv_iload_n hx hb dX2_washGain_85 rfl (lv_at hl 3 rfl) ?_
      obtain ⟨⟨v_8, q_9, q_10, q_11⟩, hv_12, h⟩ := bd_l h
      obtain ⟨q_13, eq_13⟩ : ∃ y : MdV, y = mu_sal (mu_flo (mu_tri q_7 q_9) q_10) q_11 := ⟨_, rfl⟩
      have h := nm_l h eq_13
      refine Ck_V (As := [.ref (b 4), .int p3]) (rest := []) (wc := [mdO b q_7] ++ [(b 4, .inl (k 0, 64, .inl (m_tri q_7)))] ++ [(b 8, .inl (k 0, 6, .inl (m_flo q_7)))] ++ [(b 9, .inl (k 0, 6, .inl (m_sal q_7)))]) (wc' := [mdO b q_7] ++ [(b 4, .inl (k 0, 64, .inl q_9))] ++ [(b 8, .inl (k 0, 6, .inl q_10))] ++ [(b 9, .inl (k 0, 6, .inl q_11))]) (w0' := mdW k b q_13) ⟨hx, hb, hml, hown, hts⟩ (c_X2_ticksOn l D k b (b 4) q_7 (m_tri q_7) (m_flo q_7) (m_sal q_7) p3 v_8 q_9 q_10 q_11 hv_12) (cwV 2 hts gX2_washGain_X2_ticksOn rfl rfl rfl (by decide +kernel) ⟨Nat.le_of_ble_eq_true rfl, Nat.le_of_ble_eq_true rfl⟩) hK hP hD hS hA (q0 := 0) (ci := 2) rfl rfl [0, 4, 8, 9] rfl (by decide) rfl (by rw [eq_13]; simp only [va_sets, List.cons_append, List.nil_append, md_set_0, md_set_tri, md_set_flo, md_set_sal]) rfl hl.1 rfl (Nat.le_of_ble_eq_true rfl) dX2_washGain_86 ⟨Nat.le_of_ble_eq_true rfl, Nat.le_of_ble_eq_true rfl⟩ (fun H locs hP hD hS => ?_)
      refine W.eq (g2 := F0 m 89 ls [.int v_8]) rfl ?_
      refine lv_istore (lv' := [(4, .int v_8), (0, .ref (b 0)), (1, .int p1), (2, .int p2), (3, .int p3)]) hx hb dX2_washGain_89 hl (by decide) rfl (fun ls hl => ?_)
      refine lv_aload_n hx hb dX2_washGain_91 rfl (lv_at hl 1 rfl) ?_
      refine va_get (D := D) (ci := 2) (v := .ref (b 3)) (C := RX2) (T := TX2) (N := 15) hx hb hts w_1 hown hK hP 0 rfl rfl 7 (by decide) w_0 (fun _ h9 => h9) rfl dX2_washGain_92 ?_
      refine lv_iconst (v := 0) hx hb dX2_washGain_95 (by decide) ?_
      refine lv_aload_n hx hb dX2_washGain_96 rfl (lv_at hl 1 rfl) ?_
      refine va_get (D := D) (ci := 2) (v := .ref (b 4)) (C := RX2) (T := TX2) (N := 15) hx hb hts w_1 hown hK hP 0 rfl rfl 8 (by decide) w_2 (fun _ h9 => h9) rfl dX2_washGain_97 ?_
      refine lv_iconst (v := 0) hx hb dX2_washGain_100 (by decide) ?_
      refine lv_bipush (v := 64) hx hb dX2_washGain_101 (by decide) ?_
      obtain ⟨q_14, hv_15, h⟩ := bd_l h
      obtain ⟨q_16, eq_16⟩ : ∃ y : MdV, y = mu_tri q_13 q_14 := ⟨_, rfl⟩
      have h := nm_l h eq_16
      refine Ck_S (As := [.ref (b 3), .int 0, .ref (b 4), .int 0, .int 64]) (rest := []) (wc := [(b 3, .inl (k 0, 64, .inl (m_now q_13)))] ++ [(b 4, .inl (k 0, 64, .inl (m_tri q_13)))]) (wc' := [(b 3, .inl (k 0, 64, .inl (m_now q_13)))] ++ [(b 4, .inl (k 0, 64, .inl q_14))]) (w0' := mdW k b q_16) ⟨hx, hb, hml, hown, hts⟩ (c_X2_copy l D k (b 3) (b 4) 64 64 (m_now q_13) (m_tri q_13) 0 0 64 q_14 hv_15) (va_cwS 5 hts gX2_washGain_X2_copy rfl rfl rfl (by decide +kernel) ⟨Nat.le_of_ble_eq_true rfl, Nat.le_of_ble_eq_true rfl⟩) hK hP hD hS hA [3, 4] rfl (by decide) rfl (by rw [eq_16]; simp only [va_sets, List.cons_append, List.nil_append, md_set_0, md_self_now, md_set_tri]) rfl hl.1 rfl (Nat.le_of_ble_eq_true rfl) dX2_washGain_103 ⟨Nat.le_of_ble_eq_true rfl, Nat.le_of_ble_eq_true rfl⟩ (fun H locs hP hD hS => ?_)
      refine W.eq (g2 := F0 m 106 ls []) rfl ?_
      refine lv_aload_n hx hb dX2_washGain_106 rfl (lv_at hl 1 rfl) ?_
      refine va_get (D := D) (ci := 2) (v := .ref (b 4)) (C := RX2) (T := TX2) (N := 15) hx hb hts w_1 hown hK hP 0 rfl rfl 8 (by decide) w_2 (fun _ h9 => h9) rfl dX2_washGain_107 ?_
      refine lv_bipush (v := 42) hx hb dX2_washGain_110 (by decide) ?_
      refine lv_iload_n hx hb dX2_washGain_112 rfl (lv_at hl 2 rfl) ?_
      refine lv_iadd hx hb dX2_washGain_113 ?_
      refine lv_iload_n hx hb dX2_washGain_114 rfl (lv_at hl 3 rfl) ?_
      have g_17 := inb_vp (gb_l h)
      have h := gb_r h
      refine va_iast hx hb hK hP hD hS 4 0 rfl rfl g_17 dX2_washGain_115 (fun H locs hP hD hS => ?_)
      obtain ⟨q_18, eq_18⟩ : ∃ y : MdV, y = mu_tri q_16 (upd (m_tri q_16) (42 + p1).toNatClampNeg p2) := ⟨_, rfl⟩
      have hP : va_P D vwCl (mdW k b q_18) H := by rw [eq_18, ← md_set_tri k b q_16 _]; exact hP
      have hD : va_D A (mdW k b q_18) := by rw [eq_18, ← md_set_tri k b q_16 _]; exact hD
      have h := nm_l h eq_18
      refine lv_aload_n hx hb dX2_washGain_116 rfl (lv_at hl 1 rfl) ?_
      refine lv_aload_n hx hb dX2_washGain_117 rfl (lv_at hl 1 rfl) ?_
      refine va_get (D := D) (ci := 2) (v := .ref (b 4)) (C := RX2) (T := TX2) (N := 15) hx hb hts w_1 hown hK hP 0 rfl rfl 8 (by decide) w_2 (fun _ h9 => h9) rfl dX2_washGain_118 ?_
      refine lv_iload_n hx hb dX2_washGain_121 rfl (lv_at hl 4 rfl) ?_
      obtain ⟨⟨v_19, q_20, q_21, q_22⟩, hv_23, h⟩ := bd_l h
      obtain ⟨q_24, eq_24⟩ : ∃ y : MdV, y = mu_sal (mu_flo (mu_tri q_18 q_20) q_21) q_22 := ⟨_, rfl⟩
      have h := nm_l h eq_24
      refine Ck_V (As := [.ref (b 4), .int p3]) (rest := []) (wc := [mdO b q_18] ++ [(b 4, .inl (k 0, 64, .inl (m_tri q_18)))] ++ [(b 8, .inl (k 0, 6, .inl (m_flo q_18)))] ++ [(b 9, .inl (k 0, 6, .inl (m_sal q_18)))]) (wc' := [mdO b q_18] ++ [(b 4, .inl (k 0, 64, .inl q_20))] ++ [(b 8, .inl (k 0, 6, .inl q_21))] ++ [(b 9, .inl (k 0, 6, .inl q_22))]) (w0' := mdW k b q_24) ⟨hx, hb, hml, hown, hts⟩ (c_X2_ticksOn l D k b (b 4) q_18 (m_tri q_18) (m_flo q_18) (m_sal q_18) p3 v_19 q_20 q_21 q_22 hv_23) (cwV 2 hts gX2_washGain_X2_ticksOn rfl rfl rfl (by decide +kernel) ⟨Nat.le_of_ble_eq_true rfl, Nat.le_of_ble_eq_true rfl⟩) hK hP hD hS hA (q0 := 0) (ci := 2) rfl rfl [0, 4, 8, 9] rfl (by decide) rfl (by rw [eq_24]; simp only [va_sets, List.cons_append, List.nil_append, md_set_0, md_set_tri, md_set_flo, md_set_sal]) rfl hl.1 rfl (Nat.le_of_ble_eq_true rfl) dX2_washGain_122 ⟨Nat.le_of_ble_eq_true rfl, Nat.le_of_ble_eq_true rfl⟩ (fun H locs hP hD hS => ?_)
      refine W.eq (g2 := F0 m 125 ls [.int v_19]) rfl ?_
      refine lv_iload hx hb dX2_washGain_125 (lv_at hl 0 rfl) ?_
      refine lv_isub hx hb dX2_washGain_127 ?_
      cases h
      exact Ck_iret hx hb hr hP hD hS dX2_washGain_128 hlocks
    · have h := it_r c_4 h
      refine lv_iconst (v := 0) hx hb dX2_washGain_63 (by decide) ?_
      cases h
      exact Ck_iret hx hb hr hP hD hS dX2_washGain_64 hlocks
  have hC_37 : ∀ (H : Heap) (locs : List Loc) (ls : Array Slot), va_P D vwCl (mdW k b M) H → va_D A (mdW k b M) → va_S A s.heap H locs → lv_has ls 5 [(0, .ref (b 0)), (1, .int p1), (2, .int p2), (3, .int p3)] → f_X2_washGain_37 M p1 p2 p3  = some (o0, o1) → W p l e ({ frames := 5, cells := 0, slots := 0, locals := 118 } : Room) s m args below meth c H locs 0 0 (MQ below (Qk D A (some (.int o0)) (mdW k b o1)) args s 0 0 A) (F0 m 37 ls [.ref (b 0)]) := by
    intro  H locs ls hP hD hS hl h
    unfold f_X2_washGain_37 at h
    refine lv_iconst (v := 2) hx hb dX2_washGain_37 (by decide) ?_
    refine lv_goto (tgt := 57) hx hb dX2_washGain_38 (by decide) ?_
    exact hC_57 2 _ _ _ hP hD hS (lv_sub hl [0, 1, 2, 3] rfl) h
  refine lv_aload_n hx hb dX2_washGain_0 rfl (lv_at hl 0 rfl) ?_
  refine lv_aload_n hx hb dX2_washGain_1 rfl (lv_at hl 0 rfl) ?_
  refine lv_iload_n hx hb dX2_washGain_2 rfl (lv_at hl 1 rfl) ?_
  obtain ⟨v_25, hv_26, h⟩ := bd_l h
  refine Ck_V (As := [.int p1]) (rest := [.ref (b 0)]) (wc := [mdO b M]) (wc' := [mdO b M]) (w0' := mdW k b M) ⟨hx, hb, hml, hown, hts⟩ (c_X2_isEffect l D k b M p1 v_25 hv_26) (cwV 1 hts gX2_washGain_X2_isEffect rfl rfl rfl (by decide +kernel) ⟨Nat.le_of_ble_eq_true rfl, Nat.le_of_ble_eq_true rfl⟩) hK hP hD hS hA (q0 := 0) (ci := 2) rfl rfl [0] rfl (by decide) rfl rfl rfl hl.1 rfl (Nat.le_of_ble_eq_true rfl) dX2_washGain_3 ⟨Nat.le_of_ble_eq_true rfl, Nat.le_of_ble_eq_true rfl⟩ (fun H locs hP hD hS => ?_)
  refine W.eq (g2 := F0 m 6 ls [.int v_25, .ref (b 0)]) rfl ?_
  refine lv_if_ne (tgt := 13) hx hb dX2_washGain_6 (by decide) (fun c_27 => ?_) (fun c_27 => ?_)
  · have h := it_r c_27 h
    refine lv_iload_n hx hb dX2_washGain_13 rfl (lv_at hl 2 rfl) ?_
    refine lv_i2l hx hb dX2_washGain_14 rfl ?_
    refine lv_lconst (v := 1) hx hb dX2_washGain_15 (by decide) ?_
    refine lv_ldc2 (v := 20) hx hb hown w_3 dX2_washGain_16 ?_
    obtain ⟨v_28, hv_29, h⟩ := bd_l h
    refine Ck_S (As := [.long (p2.toInt64), .long 1, .long 20]) (rest := [.ref (b 0)]) (wc := ([] : va_W)) (wc' := ([] : va_W)) (w0' := mdW k b M) ⟨hx, hb, hml, hown, hts⟩ (c_X2_in l D k  (p2.toInt64) 1 20 v_28 hv_29) (va_cwS 3 hts gX2_washGain_X2_in rfl rfl rfl (by decide +kernel) ⟨Nat.le_of_ble_eq_true rfl, Nat.le_of_ble_eq_true rfl⟩) hK hP hD hS hA [] rfl (by decide) rfl rfl rfl hl.1 rfl (Nat.le_of_ble_eq_true rfl) dX2_washGain_19 ⟨Nat.le_of_ble_eq_true rfl, Nat.le_of_ble_eq_true rfl⟩ (fun H locs hP hD hS => ?_)
    refine W.eq (g2 := F0 m 22 ls [.int v_28, .ref (b 0)]) rfl ?_
    refine lv_if_eq (tgt := 37) hx hb dX2_washGain_22 (by decide) (fun c_30 => ?_) (fun c_30 => ?_)
    · have h := it_l c_30 h
      exact hC_37  _ _ _ hP hD hS (lv_sub hl [0, 1, 2, 3] rfl) h
    · have h := it_r c_30 h
      refine lv_iload_n hx hb dX2_washGain_25 rfl (lv_at hl 3 rfl) ?_
      refine lv_i2l hx hb dX2_washGain_26 rfl ?_
      refine lv_lconst (v := 1) hx hb dX2_washGain_27 (by decide) ?_
      refine lv_ldc2 (v := 99) hx hb hown w_4 dX2_washGain_28 ?_
      obtain ⟨v_31, hv_32, h⟩ := bd_l h
      refine Ck_S (As := [.long (p3.toInt64), .long 1, .long 99]) (rest := [.ref (b 0)]) (wc := ([] : va_W)) (wc' := ([] : va_W)) (w0' := mdW k b M) ⟨hx, hb, hml, hown, hts⟩ (c_X2_in l D k  (p3.toInt64) 1 99 v_31 hv_32) (va_cwS 3 hts gX2_washGain_X2_in rfl rfl rfl (by decide +kernel) ⟨Nat.le_of_ble_eq_true rfl, Nat.le_of_ble_eq_true rfl⟩) hK hP hD hS hA [] rfl (by decide) rfl rfl rfl hl.1 rfl (Nat.le_of_ble_eq_true rfl) dX2_washGain_31 ⟨Nat.le_of_ble_eq_true rfl, Nat.le_of_ble_eq_true rfl⟩ (fun H locs hP hD hS => ?_)
      refine W.eq (g2 := F0 m 34 ls [.int v_31, .ref (b 0)]) rfl ?_
      refine lv_if_ne (tgt := 41) hx hb dX2_washGain_34 (by decide) (fun c_33 => ?_) (fun c_33 => ?_)
      · have h := it_r c_33 h
        refine lv_aload_n hx hb dX2_washGain_41 rfl (lv_at hl 0 rfl) ?_
        refine va_get (D := D) (ci := 2) (v := .ref (b 3)) (C := RX2) (T := TX2) (N := 15) hx hb hts w_1 hown hK hP 0 rfl rfl 7 (by decide) w_0 (fun _ h9 => h9) rfl dX2_washGain_42 ?_
        refine lv_iload_n hx hb dX2_washGain_45 rfl (lv_at hl 1 rfl) ?_
        obtain ⟨v_34, hv_35, h⟩ := bd_l h
        refine Ck_S (As := [.ref (b 3), .int p1]) (rest := [.ref (b 0)]) (wc := [(b 3, .inl (k 0, 64, .inl (m_now M)))]) (wc' := [(b 3, .inl (k 0, 64, .inl (m_now M)))]) (w0' := mdW k b M) ⟨hx, hb, hml, hown, hts⟩ (c_X2_works l D k (b 3) (m_now M) p1 v_34 hv_35) (va_cwS 2 hts gX2_washGain_X2_works rfl rfl rfl (by decide +kernel) ⟨Nat.le_of_ble_eq_true rfl, Nat.le_of_ble_eq_true rfl⟩) hK hP hD hS hA [3] rfl (by decide) rfl rfl rfl hl.1 rfl (Nat.le_of_ble_eq_true rfl) dX2_washGain_46 ⟨Nat.le_of_ble_eq_true rfl, Nat.le_of_ble_eq_true rfl⟩ (fun H locs hP hD hS => ?_)
        refine W.eq (g2 := F0 m 49 ls [.int v_34, .ref (b 0)]) rfl ?_
        refine lv_if_ne (tgt := 56) hx hb dX2_washGain_49 (by decide) (fun c_36 => ?_) (fun c_36 => ?_)
        · have h := it_r c_36 h
          refine lv_iconst (v := 0) hx hb dX2_washGain_56 (by decide) ?_
          exact hC_57 0 _ _ _ hP hD hS (lv_sub hl [0, 1, 2, 3] rfl) h
        · have h := it_l c_36 h
          refine lv_iconst (v := 3) hx hb dX2_washGain_52 (by decide) ?_
          refine lv_goto (tgt := 57) hx hb dX2_washGain_53 (by decide) ?_
          exact hC_57 3 _ _ _ hP hD hS (lv_sub hl [0, 1, 2, 3] rfl) h
      · have h := it_l c_33 h
        exact hC_37  _ _ _ hP hD hS (lv_sub hl [0, 1, 2, 3] rfl) h
  · have h := it_l c_27 h
    refine lv_iconst (v := 1) hx hb dX2_washGain_9 (by decide) ?_
    refine lv_goto (tgt := 57) hx hb dX2_washGain_10 (by decide) ?_
    exact hC_57 1 _ _ _ hP hD hS (lv_sub hl [0, 1, 2, 3] rfl) h
def f_X2_bestTurns_91 (k_62 : Int32 → Int32 → Int32 → Int32 → MdV → Option (Int32 × MdV)) (x3_62 : Int32) (x4_91 : Int32) (x6_91 : Int32) (x7_91 : Int32) (t0_91 : Int32) (M_91 : MdV) : Option (Int32 × MdV) := if x7_91 ≤ x4_91 then (k_62 x3_62 x4_91 t0_91 (x6_91 + 1) M_91) else (k_62 x3_62 x7_91 t0_91 (x6_91 + 1) M_91)
def f_X2_bestTurns_62 (p1 : Int32) (p2 : Int32) : Nat → Int32 → Int32 → Int32 → Int32 → MdV → Option (Int32 × MdV)
  | 0, _, _, _, _, _ => none
  | fu + 1, x3_62, x4_62, x5_62, x6_62, M_62 => if x3_62 ≤ x6_62 then (if p2 = 0 then (some (x4_62, M_62)) else (gb (nz ((m_n M_62) + 1)) <| gb (nz (x3_62 / ((m_n M_62) + 1))) <| some (((x5_62 / (x3_62 / ((m_n M_62) + 1))) - 1), M_62))) else (bd (f_X2_turns M_62 p1 x6_62) fun ⟨v_6, q_7⟩ => if v_6 ≤ x4_62 then (f_X2_bestTurns_91 (f_X2_bestTurns_62 p1 p2 fu) x3_62 x4_62 x6_62 v_6 x5_62 q_7) else (f_X2_bestTurns_91 (f_X2_bestTurns_62 p1 p2 fu) x3_62 x4_62 x6_62 v_6 x6_62 q_7))
def f_X2_bestTurns_31 (p1 : Int32) (p2 : Int32) : Nat → Int32 → Int32 → MdV → Option (Int32 × MdV)
  | 0, _, _, _ => none
  | fu + 1, x3_31, x4_31, M_31 => if p1 ≤ x4_31 then (f_X2_bestTurns_62 p1 p2 2000 x3_31 (-9) 0 0 M_31) else (nm (x3_31 * ((m_n M_31) + 1)) fun v_11 => (f_X2_bestTurns_31 p1 p2 fu) v_11 (x4_31 + 1) M_31)
def f_X2_bestTurns (M : MdV) (p1 : Int32) (p2 : Int32) : Option (Int32 × MdV) := bd (f_X2_in (p1.toInt64) 1 3) fun v_12 => if v_12 = 0 then (bd (f_X2_refused M 1) fun ⟨v_15, q_16⟩ => if v_15 = 0 then (f_X2_bestTurns_31 p1 p2 2000 1 0 q_16) else (some (0, q_16))) else (bd (f_X2_refused M 0) fun ⟨v_19, q_20⟩ => if v_19 = 0 then (f_X2_bestTurns_31 p1 p2 2000 1 0 q_20) else (some (0, q_20)))
set_option maxRecDepth 100000 in
set_option maxHeartbeats 4000000 in
theorem c_X2_bestTurns (l : Launch) (D : va_G) (k : Nat → ClassId) (b : Nat → Nat) (M : MdV) (p1 : Int32) (p2 : Int32) (o0 : Int32) (o1 : MdV) (h : f_X2_bestTurns M p1 p2 = some (o0, o1)) : Ck l D (tyK k) yX2_bestTurns wsX2_bestTurns ({ frames := 6, cells := 0, slots := 0, locals := 144 } : Room) [.ref (b 0), .int p1, .int p2] (mdW k b M) (some (.int o0)) (mdW k b o1) := by
  refine Ck_of (cc := cX2_bestTurns) (maxL := 8) (ret := (some .int)) (by decide) rfl (Nat.le_of_ble_eq_true rfl) ?_
  intro p e s m args below meth c A ls hx hb hr hml hts hown hlocks hK hA hP hD hS hl
  have hl : lv_has ls 8 [(0, .ref (b 0)), (1, .int p1), (2, .int p2)] := hl
  have hP : va_P D vwCl (mdW k b M) s.heap := hP
  have w_0 := hts (.fieldLink RX2 38 "EffectTrainModel" "n" "I") (by decide +kernel)
  have w_1 : ∀ w ∈ wsX20, w ∈ wsX2_bestTurns := by decide +kernel
  have w_2 := hts (.constantLong RX2 158 (3)) (by decide +kernel)
  unfold f_X2_bestTurns at h
  have hC_62 : ∀ (fu_62 : Nat) (x3_62 : Int32) (x4_62 : Int32) (x5_62 : Int32) (x6_62 : Int32) (M_62 : MdV) (H : Heap) (locs : List Loc) (ls : Array Slot), va_P D vwCl (mdW k b M_62) H → va_D A (mdW k b M_62) → va_S A s.heap H locs → lv_has ls 8 [(0, .ref (b 0)), (1, .int p1), (2, .int p2), (3, .int x3_62), (4, .int x4_62), (5, .int x5_62), (6, .int x6_62)] → f_X2_bestTurns_62 p1 p2 fu_62 x3_62 x4_62 x5_62 x6_62 M_62 = some (o0, o1) → W p l e ({ frames := 6, cells := 0, slots := 0, locals := 144 } : Room) s m args below meth c H locs 0 0 (MQ below (Qk D A (some (.int o0)) (mdW k b o1)) args s 0 0 A) (F0 m 62 ls []) := by
    intro fu_62
    induction fu_62 with
    | zero => intro x3_62 x4_62 x5_62 x6_62 M_62 H locs ls _ _ _ _ h; exact (no_l h).elim
    | succ fu_62 ih_62 =>
      intro x3_62 x4_62 x5_62 x6_62 M_62 H locs ls hP hD hS hl h
      rw [f_X2_bestTurns_62] at h
      have hC_91 : ∀ (x4_91 : Int32) (x6_91 : Int32) (x7_91 : Int32) (t0_91 : Int32) (M_91 : MdV) (H : Heap) (locs : List Loc) (ls : Array Slot), va_P D vwCl (mdW k b M_91) H → va_D A (mdW k b M_91) → va_S A s.heap H locs → lv_has ls 8 [(0, .ref (b 0)), (1, .int p1), (2, .int p2), (3, .int x3_62), (4, .int x4_91), (6, .int x6_91), (7, .int x7_91)] → f_X2_bestTurns_91 (f_X2_bestTurns_62 p1 p2 fu_62) x3_62 x4_91 x6_91 x7_91 t0_91 M_91 = some (o0, o1) → W p l e ({ frames := 6, cells := 0, slots := 0, locals := 144 } : Room) s m args below meth c H locs 0 0 (MQ below (Qk D A (some (.int o0)) (mdW k b o1)) args s 0 0 A) (F0 m 91 ls [.int t0_91]) := by
        intro x4_91 x6_91 x7_91 t0_91 M_91 H locs ls hP hD hS hl h
        unfold f_X2_bestTurns_91 at h
        refine lv_istore (lv' := [(5, .int t0_91), (0, .ref (b 0)), (1, .int p1), (2, .int p2), (3, .int x3_62), (4, .int x4_91), (6, .int x6_91), (7, .int x7_91)]) hx hb dX2_bestTurns_91 hl (by decide) rfl (fun ls hl => ?_)
        refine lv_iload hx hb dX2_bestTurns_93 (lv_at hl 7 rfl) ?_
        refine lv_iload hx hb dX2_bestTurns_95 (lv_at hl 5 rfl) ?_
        refine lv_icmp_le (tgt := 105) hx hb dX2_bestTurns_97 (by decide) (fun c_1 => ?_) (fun c_1 => ?_)
        · have h := it_l c_1 h
          refine lv_iload hx hb dX2_bestTurns_105 (lv_at hl 5 rfl) ?_
          refine lv_istore (lv' := [(4, .int x4_91), (5, .int t0_91), (0, .ref (b 0)), (1, .int p1), (2, .int p2), (3, .int x3_62), (6, .int x6_91), (7, .int x7_91)]) hx hb dX2_bestTurns_107 hl (by decide) rfl (fun ls hl => ?_)
          refine lv_iinc (v := (x6_91 + 1)) (lv' := [(6, .int (x6_91 + 1)), (4, .int x4_91), (5, .int t0_91), (0, .ref (b 0)), (1, .int p1), (2, .int p2), (3, .int x3_62), (7, .int x7_91)]) hx hb dX2_bestTurns_109 hl (k := 6) rfl rfl (by decide) rfl (fun ls hl => ?_)
          refine lv_goto (tgt := 62) hx hb dX2_bestTurns_112 (by decide) ?_
          exact ih_62 x3_62 x4_91 t0_91 (x6_91 + 1) M_91 _ _ _ hP hD hS (lv_sub hl [3, 4, 5, 6, 1, 2, 0] rfl) h
        · have h := it_r c_1 h
          refine lv_iload hx hb dX2_bestTurns_100 (lv_at hl 7 rfl) ?_
          refine lv_goto (tgt := 107) hx hb dX2_bestTurns_102 (by decide) ?_
          refine lv_istore (lv' := [(4, .int x7_91), (5, .int t0_91), (0, .ref (b 0)), (1, .int p1), (2, .int p2), (3, .int x3_62), (6, .int x6_91), (7, .int x7_91)]) hx hb dX2_bestTurns_107 hl (by decide) rfl (fun ls hl => ?_)
          refine lv_iinc (v := (x6_91 + 1)) (lv' := [(6, .int (x6_91 + 1)), (4, .int x7_91), (5, .int t0_91), (0, .ref (b 0)), (1, .int p1), (2, .int p2), (3, .int x3_62), (7, .int x7_91)]) hx hb dX2_bestTurns_109 hl (k := 6) rfl rfl (by decide) rfl (fun ls hl => ?_)
          refine lv_goto (tgt := 62) hx hb dX2_bestTurns_112 (by decide) ?_
          exact ih_62 x3_62 x7_91 t0_91 (x6_91 + 1) M_91 _ _ _ hP hD hS (lv_sub hl [3, 4, 5, 6, 1, 2, 0] rfl) h
      refine lv_iload hx hb dX2_bestTurns_62 (lv_at hl 6 rfl) ?_
      refine lv_iload_n hx hb dX2_bestTurns_64 rfl (lv_at hl 3 rfl) ?_
      refine lv_icmp_ge (tgt := 115) hx hb dX2_bestTurns_65 (by decide) (fun c_2 => ?_) (fun c_2 => ?_)
      · have h := it_l c_2 h
        refine lv_iload_n hx hb dX2_bestTurns_115 rfl (lv_at hl 2 rfl) ?_
        refine lv_if_eq (tgt := 135) hx hb dX2_bestTurns_116 (by decide) (fun c_3 => ?_) (fun c_3 => ?_)
        · have h := it_l c_3 h
          refine lv_iload hx hb dX2_bestTurns_135 (lv_at hl 4 rfl) ?_
          cases h
          exact Ck_iret hx hb hr hP hD hS dX2_bestTurns_137 hlocks
        · have h := it_r c_3 h
          refine lv_iload hx hb dX2_bestTurns_119 (lv_at hl 5 rfl) ?_
          refine lv_iload_n hx hb dX2_bestTurns_121 rfl (lv_at hl 3 rfl) ?_
          refine lv_aload_n hx hb dX2_bestTurns_122 rfl (lv_at hl 0 rfl) ?_
          refine va_get (D := D) (ci := 2) (v := .int (m_n M_62)) (C := RX2) (T := TX2) (N := 15) hx hb hts w_1 hown hK hP 0 rfl rfl 6 (by decide) w_0 (fun _ h9 => h9) rfl dX2_bestTurns_123 ?_
          refine lv_iconst (v := 1) hx hb dX2_bestTurns_126 (by decide) ?_
          refine lv_iadd hx hb dX2_bestTurns_127 ?_
          have g_4 := nz_l (gb_l h)
          have h := gb_r h
          refine lv_idiv hx hb dX2_bestTurns_128 g_4 ?_
          have g_5 := nz_l (gb_l h)
          have h := gb_r h
          refine lv_idiv hx hb dX2_bestTurns_129 g_5 ?_
          refine lv_iconst (v := 1) hx hb dX2_bestTurns_130 (by decide) ?_
          refine lv_isub hx hb dX2_bestTurns_131 ?_
          refine lv_goto (tgt := 137) hx hb dX2_bestTurns_132 (by decide) ?_
          cases h
          exact Ck_iret hx hb hr hP hD hS dX2_bestTurns_137 hlocks
      · have h := it_r c_2 h
        refine lv_aload_n hx hb dX2_bestTurns_68 rfl (lv_at hl 0 rfl) ?_
        refine lv_iload_n hx hb dX2_bestTurns_69 rfl (lv_at hl 1 rfl) ?_
        refine lv_iload hx hb dX2_bestTurns_70 (lv_at hl 6 rfl) ?_
        obtain ⟨⟨v_6, q_7⟩, hv_8, h⟩ := bd_l h
        refine Ck_V (As := [.int p1, .int x6_62]) (rest := []) (wc := mdW k b M_62) (wc' := mdW k b q_7) (w0' := mdW k b q_7) ⟨hx, hb, hml, hown, hts⟩ (c_X2_turns l D k b M_62 p1 x6_62 v_6 q_7 hv_8) (cwV 2 hts gX2_bestTurns_X2_turns rfl rfl rfl (by decide +kernel) ⟨Nat.le_of_ble_eq_true rfl, Nat.le_of_ble_eq_true rfl⟩) hK hP hD hS hA (q0 := 0) (ci := 2) rfl rfl [0, 1, 2, 3, 4, 5, 6, 7, 8, 9] rfl (by decide) rfl rfl rfl hl.1 rfl (Nat.le_of_ble_eq_true rfl) dX2_bestTurns_72 ⟨Nat.le_of_ble_eq_true rfl, Nat.le_of_ble_eq_true rfl⟩ (fun H locs hP hD hS => ?_)
        refine W.eq (g2 := F0 m 75 ls [.int v_6]) rfl ?_
        refine lv_istore (lv' := [(7, .int v_6), (0, .ref (b 0)), (1, .int p1), (2, .int p2), (3, .int x3_62), (4, .int x4_62), (5, .int x5_62), (6, .int x6_62)]) hx hb dX2_bestTurns_75 hl (by decide) rfl (fun ls hl => ?_)
        refine lv_iload hx hb dX2_bestTurns_77 (lv_at hl 0 rfl) ?_
        refine lv_iload hx hb dX2_bestTurns_79 (lv_at hl 5 rfl) ?_
        refine lv_icmp_le (tgt := 89) hx hb dX2_bestTurns_81 (by decide) (fun c_9 => ?_) (fun c_9 => ?_)
        · have h := it_l c_9 h
          refine lv_iload hx hb dX2_bestTurns_89 (lv_at hl 6 rfl) ?_
          exact hC_91 x4_62 x6_62 v_6 x5_62 q_7 _ _ _ hP hD hS (lv_sub hl [1, 2, 3, 4, 5, 7, 0] rfl) h
        · have h := it_r c_9 h
          refine lv_iload hx hb dX2_bestTurns_84 (lv_at hl 7 rfl) ?_
          refine lv_goto (tgt := 91) hx hb dX2_bestTurns_86 (by decide) ?_
          exact hC_91 x4_62 x6_62 v_6 x6_62 q_7 _ _ _ hP hD hS (lv_sub hl [1, 2, 3, 4, 5, 7, 0] rfl) h
  have hC_31 : ∀ (fu_31 : Nat) (x3_31 : Int32) (x4_31 : Int32) (M_31 : MdV) (H : Heap) (locs : List Loc) (ls : Array Slot), va_P D vwCl (mdW k b M_31) H → va_D A (mdW k b M_31) → va_S A s.heap H locs → lv_has ls 8 [(0, .ref (b 0)), (1, .int p1), (2, .int p2), (3, .int x3_31), (4, .int x4_31)] → f_X2_bestTurns_31 p1 p2 fu_31 x3_31 x4_31 M_31 = some (o0, o1) → W p l e ({ frames := 6, cells := 0, slots := 0, locals := 144 } : Room) s m args below meth c H locs 0 0 (MQ below (Qk D A (some (.int o0)) (mdW k b o1)) args s 0 0 A) (F0 m 31 ls []) := by
    intro fu_31
    induction fu_31 with
    | zero => intro x3_31 x4_31 M_31 H locs ls _ _ _ _ h; exact (no_l h).elim
    | succ fu_31 ih_31 =>
      intro x3_31 x4_31 M_31 H locs ls hP hD hS hl h
      rw [f_X2_bestTurns_31] at h
      refine lv_iload hx hb dX2_bestTurns_31 (lv_at hl 4 rfl) ?_
      refine lv_iload_n hx hb dX2_bestTurns_33 rfl (lv_at hl 1 rfl) ?_
      refine lv_icmp_ge (tgt := 52) hx hb dX2_bestTurns_34 (by decide) (fun c_10 => ?_) (fun c_10 => ?_)
      · have h := it_l c_10 h
        refine lv_bipush (v := (-9)) hx hb dX2_bestTurns_52 (by decide) ?_
        refine lv_istore (lv' := [(4, .int (-9)), (0, .ref (b 0)), (1, .int p1), (2, .int p2), (3, .int x3_31)]) hx hb dX2_bestTurns_54 hl (by decide) rfl (fun ls hl => ?_)
        refine lv_iconst (v := 0) hx hb dX2_bestTurns_56 (by decide) ?_
        refine lv_istore (lv' := [(5, .int 0), (4, .int (-9)), (0, .ref (b 0)), (1, .int p1), (2, .int p2), (3, .int x3_31)]) hx hb dX2_bestTurns_57 hl (by decide) rfl (fun ls hl => ?_)
        refine lv_iconst (v := 0) hx hb dX2_bestTurns_59 (by decide) ?_
        refine lv_istore (lv' := [(6, .int 0), (5, .int 0), (4, .int (-9)), (0, .ref (b 0)), (1, .int p1), (2, .int p2), (3, .int x3_31)]) hx hb dX2_bestTurns_60 hl (by decide) rfl (fun ls hl => ?_)
        exact hC_62 2000 x3_31 (-9) 0 0 M_31 _ _ _ hP hD hS (lv_sub hl [3, 4, 5, 6, 2, 1, 0] rfl) h
      · have h := it_r c_10 h
        refine lv_iload_n hx hb dX2_bestTurns_37 rfl (lv_at hl 3 rfl) ?_
        refine lv_aload_n hx hb dX2_bestTurns_38 rfl (lv_at hl 0 rfl) ?_
        refine va_get (D := D) (ci := 2) (v := .int (m_n M_31)) (C := RX2) (T := TX2) (N := 15) hx hb hts w_1 hown hK hP 0 rfl rfl 6 (by decide) w_0 (fun _ h9 => h9) rfl dX2_bestTurns_39 ?_
        refine lv_iconst (v := 1) hx hb dX2_bestTurns_42 (by decide) ?_
        refine lv_iadd hx hb dX2_bestTurns_43 ?_
        refine lv_imul hx hb dX2_bestTurns_44 ?_
        refine lv_topi (fun v_11 ev_11 => ?_)
        have h := nm_l h ev_11
        refine lv_istore_n (lv' := [(3, .int v_11), (0, .ref (b 0)), (1, .int p1), (2, .int p2), (4, .int x4_31)]) hx hb dX2_bestTurns_45 rfl hl (by decide) rfl (fun ls hl => ?_)
        refine lv_iinc (v := (x4_31 + 1)) (lv' := [(4, .int (x4_31 + 1)), (3, .int v_11), (0, .ref (b 0)), (1, .int p1), (2, .int p2)]) hx hb dX2_bestTurns_46 hl (k := 4) rfl rfl (by decide) rfl (fun ls hl => ?_)
        refine lv_goto (tgt := 31) hx hb dX2_bestTurns_49 (by decide) ?_
        exact ih_31 v_11 (x4_31 + 1) M_31 _ _ _ hP hD hS (lv_sub hl [2, 3, 4, 1, 0] rfl) h
  refine lv_aload_n hx hb dX2_bestTurns_0 rfl (lv_at hl 0 rfl) ?_
  refine lv_iload_n hx hb dX2_bestTurns_1 rfl (lv_at hl 1 rfl) ?_
  refine lv_i2l hx hb dX2_bestTurns_2 rfl ?_
  refine lv_lconst (v := 1) hx hb dX2_bestTurns_3 (by decide) ?_
  refine lv_ldc2 (v := 3) hx hb hown w_2 dX2_bestTurns_4 ?_
  obtain ⟨v_12, hv_13, h⟩ := bd_l h
  refine Ck_S (As := [.long (p1.toInt64), .long 1, .long 3]) (rest := [.ref (b 0)]) (wc := ([] : va_W)) (wc' := ([] : va_W)) (w0' := mdW k b M) ⟨hx, hb, hml, hown, hts⟩ (c_X2_in l D k  (p1.toInt64) 1 3 v_12 hv_13) (va_cwS 3 hts gX2_bestTurns_X2_in rfl rfl rfl (by decide +kernel) ⟨Nat.le_of_ble_eq_true rfl, Nat.le_of_ble_eq_true rfl⟩) hK hP hD hS hA [] rfl (by decide) rfl rfl rfl hl.1 rfl (Nat.le_of_ble_eq_true rfl) dX2_bestTurns_7 ⟨Nat.le_of_ble_eq_true rfl, Nat.le_of_ble_eq_true rfl⟩ (fun H locs hP hD hS => ?_)
  refine W.eq (g2 := F0 m 10 ls [.int v_12, .ref (b 0)]) rfl ?_
  refine lv_if_eq (tgt := 17) hx hb dX2_bestTurns_10 (by decide) (fun c_14 => ?_) (fun c_14 => ?_)
  · have h := it_l c_14 h
    refine lv_iconst (v := 1) hx hb dX2_bestTurns_17 (by decide) ?_
    obtain ⟨⟨v_15, q_16⟩, hv_17, h⟩ := bd_l h
    refine Ck_V (As := [.int 1]) (rest := []) (wc := mdW k b M) (wc' := mdW k b q_16) (w0' := mdW k b q_16) ⟨hx, hb, hml, hown, hts⟩ (c_X2_refused l D k b M 1 v_15 q_16 hv_17) (cwV 1 hts gX2_bestTurns_X2_refused rfl rfl rfl (by decide +kernel) ⟨Nat.le_of_ble_eq_true rfl, Nat.le_of_ble_eq_true rfl⟩) hK hP hD hS hA (q0 := 0) (ci := 2) rfl rfl [0, 1, 2, 3, 4, 5, 6, 7, 8, 9] rfl (by decide) rfl rfl rfl hl.1 rfl (Nat.le_of_ble_eq_true rfl) dX2_bestTurns_18 ⟨Nat.le_of_ble_eq_true rfl, Nat.le_of_ble_eq_true rfl⟩ (fun H locs hP hD hS => ?_)
    refine W.eq (g2 := F0 m 21 ls [.int v_15]) rfl ?_
    refine lv_if_eq (tgt := 26) hx hb dX2_bestTurns_21 (by decide) (fun c_18 => ?_) (fun c_18 => ?_)
    · have h := it_l c_18 h
      refine lv_iconst (v := 1) hx hb dX2_bestTurns_26 (by decide) ?_
      refine lv_istore_n (lv' := [(3, .int 1), (0, .ref (b 0)), (1, .int p1), (2, .int p2)]) hx hb dX2_bestTurns_27 rfl hl (by decide) rfl (fun ls hl => ?_)
      refine lv_iconst (v := 0) hx hb dX2_bestTurns_28 (by decide) ?_
      refine lv_istore (lv' := [(4, .int 0), (3, .int 1), (0, .ref (b 0)), (1, .int p1), (2, .int p2)]) hx hb dX2_bestTurns_29 hl (by decide) rfl (fun ls hl => ?_)
      exact hC_31 2000 1 0 q_16 _ _ _ hP hD hS (lv_sub hl [2, 3, 4, 1, 0] rfl) h
    · have h := it_r c_18 h
      refine lv_iconst (v := 0) hx hb dX2_bestTurns_24 (by decide) ?_
      cases h
      exact Ck_iret hx hb hr hP hD hS dX2_bestTurns_25 hlocks
  · have h := it_r c_14 h
    refine lv_iconst (v := 0) hx hb dX2_bestTurns_13 (by decide) ?_
    refine lv_goto (tgt := 18) hx hb dX2_bestTurns_14 (by decide) ?_
    obtain ⟨⟨v_19, q_20⟩, hv_21, h⟩ := bd_l h
    refine Ck_V (As := [.int 0]) (rest := []) (wc := mdW k b M) (wc' := mdW k b q_20) (w0' := mdW k b q_20) ⟨hx, hb, hml, hown, hts⟩ (c_X2_refused l D k b M 0 v_19 q_20 hv_21) (cwV 1 hts gX2_bestTurns_X2_refused rfl rfl rfl (by decide +kernel) ⟨Nat.le_of_ble_eq_true rfl, Nat.le_of_ble_eq_true rfl⟩) hK hP hD hS hA (q0 := 0) (ci := 2) rfl rfl [0, 1, 2, 3, 4, 5, 6, 7, 8, 9] rfl (by decide) rfl rfl rfl hl.1 rfl (Nat.le_of_ble_eq_true rfl) dX2_bestTurns_18 ⟨Nat.le_of_ble_eq_true rfl, Nat.le_of_ble_eq_true rfl⟩ (fun H locs hP hD hS => ?_)
    refine W.eq (g2 := F0 m 21 ls [.int v_19]) rfl ?_
    refine lv_if_eq (tgt := 26) hx hb dX2_bestTurns_21 (by decide) (fun c_22 => ?_) (fun c_22 => ?_)
    · have h := it_l c_22 h
      refine lv_iconst (v := 1) hx hb dX2_bestTurns_26 (by decide) ?_
      refine lv_istore_n (lv' := [(3, .int 1), (0, .ref (b 0)), (1, .int p1), (2, .int p2)]) hx hb dX2_bestTurns_27 rfl hl (by decide) rfl (fun ls hl => ?_)
      refine lv_iconst (v := 0) hx hb dX2_bestTurns_28 (by decide) ?_
      refine lv_istore (lv' := [(4, .int 0), (3, .int 1), (0, .ref (b 0)), (1, .int p1), (2, .int p2)]) hx hb dX2_bestTurns_29 hl (by decide) rfl (fun ls hl => ?_)
      exact hC_31 2000 1 0 q_20 _ _ _ hP hD hS (lv_sub hl [2, 3, 4, 1, 0] rfl) h
    · have h := it_r c_22 h
      refine lv_iconst (v := 0) hx hb dX2_bestTurns_24 (by decide) ?_
      cases h
      exact Ck_iret hx hb hr hP hD hS dX2_bestTurns_25 hlocks
def f_X2_scaledAfter_55 (p1 : Int32) (p2 : Int32) : Nat → Int32 → MdV → Option (Int32 × MdV)
  | 0, _, _ => none
  | fu + 1, x3_55, M_55 => if 200 < x3_55 then (some ((-9), M_55)) else (gb (inb (30 + p1) 64) <| if ((m_tri M_55) (30 + p1).toNatClampNeg) < p2 then (bd (f_X2_tickOn M_55 (m_tri M_55) (m_flo M_55) (m_sal M_55)) fun ⟨q_4, q_5, q_6⟩ => nm (mu_sal (mu_flo (mu_tri M_55 q_4) q_5) q_6) fun q_8 => (f_X2_scaledAfter_55 p1 p2 fu) (x3_55 + 1) q_8) else (some (x3_55, M_55)))
def f_X2_scaledAfter_30 (M : MdV) (p1 : Int32) (p2 : Int32) (t0_30 : Int32) : Option (Int32 × MdV) := bd (f_X2_refused M t0_30) fun ⟨v_9, q_10⟩ => if v_9 = 0 then (bd (f_X2_copy 64 64 (m_now q_10) (m_tri q_10) 0 0 64) fun q_13 => nm (mu_tri q_10 q_13) fun q_15 => f_X2_scaledAfter_55 p1 p2 2000 0 q_15) else (some (0, q_10))
def f_X2_scaledAfter (M : MdV) (p1 : Int32) (p2 : Int32) : Option (Int32 × MdV) := bd (f_X2_isEffect M p1) fun v_16 => if v_16 = 0 then (f_X2_scaledAfter_30 M p1 p2 1) else (bd (f_X2_in (p2.toInt64) 1 99) fun v_19 => if v_19 = 0 then (f_X2_scaledAfter_30 M p1 p2 2) else (f_X2_scaledAfter_30 M p1 p2 0))
set_option maxRecDepth 100000 in
set_option maxHeartbeats 4000000 in
theorem c_X2_scaledAfter (l : Launch) (D : va_G) (k : Nat → ClassId) (b : Nat → Nat) (M : MdV) (p1 : Int32) (p2 : Int32) (o0 : Int32) (o1 : MdV) (h : f_X2_scaledAfter M p1 p2 = some (o0, o1)) : Ck l D (tyK k) yX2_scaledAfter wsX2_scaledAfter ({ frames := 4, cells := 0, slots := 0, locals := 94 } : Room) [.ref (b 0), .int p1, .int p2] (mdW k b M) (some (.int o0)) (mdW k b o1) := by
  refine Ck_of (cc := cX2_scaledAfter) (maxL := 4) (ret := (some .int)) (by decide) rfl (Nat.le_of_ble_eq_true rfl) ?_
  intro p e s m args below meth c A ls hx hb hr hml hts hown hlocks hK hA hP hD hS hl
  have hl : lv_has ls 4 [(0, .ref (b 0)), (1, .int p1), (2, .int p2)] := hl
  have hP : va_P D vwCl (mdW k b M) s.heap := hP
  have w_0 := hts (.fieldLink RX2 19 "EffectTrainModel" "trial" "[I") (by decide +kernel)
  have w_1 : ∀ w ∈ wsX20, w ∈ wsX2_scaledAfter := by decide +kernel
  have w_2 := hts (.fieldLink RX2 16 "EffectTrainModel" "now" "[I") (by decide +kernel)
  have w_3 := hts (.constantLong RX2 139 (99)) (by decide +kernel)
  unfold f_X2_scaledAfter at h
  have hC_55 : ∀ (fu_55 : Nat) (x3_55 : Int32) (M_55 : MdV) (H : Heap) (locs : List Loc) (ls : Array Slot), va_P D vwCl (mdW k b M_55) H → va_D A (mdW k b M_55) → va_S A s.heap H locs → lv_has ls 4 [(0, .ref (b 0)), (1, .int p1), (2, .int p2), (3, .int x3_55)] → f_X2_scaledAfter_55 p1 p2 fu_55 x3_55 M_55 = some (o0, o1) → W p l e ({ frames := 4, cells := 0, slots := 0, locals := 94 } : Room) s m args below meth c H locs 0 0 (MQ below (Qk D A (some (.int o0)) (mdW k b o1)) args s 0 0 A) (F0 m 55 ls []) := by
    intro fu_55
    induction fu_55 with
    | zero => intro x3_55 M_55 H locs ls _ _ _ _ h; exact (no_l h).elim
    | succ fu_55 ih_55 =>
      intro x3_55 M_55 H locs ls hP hD hS hl h
      rw [f_X2_scaledAfter_55] at h
      refine lv_iload_n hx hb dX2_scaledAfter_55 rfl (lv_at hl 3 rfl) ?_
      refine lv_sipush (v := 200) hx hb dX2_scaledAfter_56 (by decide) ?_
      refine lv_icmp_gt (tgt := 91) hx hb dX2_scaledAfter_59 (by decide) (fun c_1 => ?_) (fun c_1 => ?_)
      · have h := it_l c_1 h
        refine lv_bipush (v := (-9)) hx hb dX2_scaledAfter_91 (by decide) ?_
        cases h
        exact Ck_iret hx hb hr hP hD hS dX2_scaledAfter_93 hlocks
      · have h := it_r c_1 h
        refine lv_aload_n hx hb dX2_scaledAfter_62 rfl (lv_at hl 0 rfl) ?_
        refine va_get (D := D) (ci := 2) (v := .ref (b 4)) (C := RX2) (T := TX2) (N := 15) hx hb hts w_1 hown hK hP 0 rfl rfl 8 (by decide) w_0 (fun _ h9 => h9) rfl dX2_scaledAfter_63 ?_
        refine lv_bipush (v := 30) hx hb dX2_scaledAfter_66 (by decide) ?_
        refine lv_iload_n hx hb dX2_scaledAfter_68 rfl (lv_at hl 1 rfl) ?_
        refine lv_iadd hx hb dX2_scaledAfter_69 ?_
        have g_2 := inb_vp (gb_l h)
        have h := gb_r h
        refine va_iald hx hb hK hP 4 0 rfl rfl g_2 dX2_scaledAfter_70 ?_
        refine lv_iload_n hx hb dX2_scaledAfter_71 rfl (lv_at hl 2 rfl) ?_
        refine lv_icmp_lt (tgt := 77) hx hb dX2_scaledAfter_72 (by decide) (fun c_3 => ?_) (fun c_3 => ?_)
        · have h := it_l c_3 h
          refine lv_aload_n hx hb dX2_scaledAfter_77 rfl (lv_at hl 0 rfl) ?_
          refine lv_aload_n hx hb dX2_scaledAfter_78 rfl (lv_at hl 0 rfl) ?_
          refine va_get (D := D) (ci := 2) (v := .ref (b 4)) (C := RX2) (T := TX2) (N := 15) hx hb hts w_1 hown hK hP 0 rfl rfl 8 (by decide) w_0 (fun _ h9 => h9) rfl dX2_scaledAfter_79 ?_
          obtain ⟨⟨q_4, q_5, q_6⟩, hv_7, h⟩ := bd_l h
          obtain ⟨q_8, eq_8⟩ : ∃ y : MdV, y = mu_sal (mu_flo (mu_tri M_55 q_4) q_5) q_6 := ⟨_, rfl⟩
          have h := nm_l h eq_8
          refine Ck_V (As := [.ref (b 4)]) (rest := []) (wc := [mdO b M_55] ++ [(b 4, .inl (k 0, 64, .inl (m_tri M_55)))] ++ [(b 8, .inl (k 0, 6, .inl (m_flo M_55)))] ++ [(b 9, .inl (k 0, 6, .inl (m_sal M_55)))]) (wc' := [mdO b M_55] ++ [(b 4, .inl (k 0, 64, .inl q_4))] ++ [(b 8, .inl (k 0, 6, .inl q_5))] ++ [(b 9, .inl (k 0, 6, .inl q_6))]) (w0' := mdW k b q_8) ⟨hx, hb, hml, hown, hts⟩ (c_X2_tickOn l D k b (b 4) M_55 (m_tri M_55) (m_flo M_55) (m_sal M_55) q_4 q_5 q_6 hv_7) (cwV 1 hts gX2_scaledAfter_X2_tickOn rfl rfl rfl (by decide +kernel) ⟨Nat.le_of_ble_eq_true rfl, Nat.le_of_ble_eq_true rfl⟩) hK hP hD hS hA (q0 := 0) (ci := 2) rfl rfl [0, 4, 8, 9] rfl (by decide) rfl (by rw [eq_8]; simp only [va_sets, List.cons_append, List.nil_append, md_set_0, md_set_tri, md_set_flo, md_set_sal]) rfl hl.1 rfl (Nat.le_of_ble_eq_true rfl) dX2_scaledAfter_82 ⟨Nat.le_of_ble_eq_true rfl, Nat.le_of_ble_eq_true rfl⟩ (fun H locs hP hD hS => ?_)
          refine W.eq (g2 := F0 m 85 ls []) rfl ?_
          refine lv_iinc (v := (x3_55 + 1)) (lv' := [(3, .int (x3_55 + 1)), (0, .ref (b 0)), (1, .int p1), (2, .int p2)]) hx hb dX2_scaledAfter_85 hl (k := 3) rfl rfl (by decide) rfl (fun ls hl => ?_)
          refine lv_goto (tgt := 55) hx hb dX2_scaledAfter_88 (by decide) ?_
          exact ih_55 (x3_55 + 1) q_8 _ _ _ hP hD hS (lv_sub hl [1, 2, 3, 0] rfl) h
        · have h := it_r c_3 h
          refine lv_iload_n hx hb dX2_scaledAfter_75 rfl (lv_at hl 3 rfl) ?_
          cases h
          exact Ck_iret hx hb hr hP hD hS dX2_scaledAfter_76 hlocks
  have hC_30 : ∀ (t0_30 : Int32) (H : Heap) (locs : List Loc) (ls : Array Slot), va_P D vwCl (mdW k b M) H → va_D A (mdW k b M) → va_S A s.heap H locs → lv_has ls 4 [(0, .ref (b 0)), (1, .int p1), (2, .int p2)] → f_X2_scaledAfter_30 M p1 p2 t0_30 = some (o0, o1) → W p l e ({ frames := 4, cells := 0, slots := 0, locals := 94 } : Room) s m args below meth c H locs 0 0 (MQ below (Qk D A (some (.int o0)) (mdW k b o1)) args s 0 0 A) (F0 m 30 ls [.int t0_30, .ref (b 0)]) := by
    intro t0_30 H locs ls hP hD hS hl h
    unfold f_X2_scaledAfter_30 at h
    obtain ⟨⟨v_9, q_10⟩, hv_11, h⟩ := bd_l h
    refine Ck_V (As := [.int t0_30]) (rest := []) (wc := mdW k b M) (wc' := mdW k b q_10) (w0' := mdW k b q_10) ⟨hx, hb, hml, hown, hts⟩ (c_X2_refused l D k b M t0_30 v_9 q_10 hv_11) (cwV 1 hts gX2_scaledAfter_X2_refused rfl rfl rfl (by decide +kernel) ⟨Nat.le_of_ble_eq_true rfl, Nat.le_of_ble_eq_true rfl⟩) hK hP hD hS hA (q0 := 0) (ci := 2) rfl rfl [0, 1, 2, 3, 4, 5, 6, 7, 8, 9] rfl (by decide) rfl rfl rfl hl.1 rfl (Nat.le_of_ble_eq_true rfl) dX2_scaledAfter_30 ⟨Nat.le_of_ble_eq_true rfl, Nat.le_of_ble_eq_true rfl⟩ (fun H locs hP hD hS => ?_)
    refine W.eq (g2 := F0 m 33 ls [.int v_9]) rfl ?_
    refine lv_if_eq (tgt := 38) hx hb dX2_scaledAfter_33 (by decide) (fun c_12 => ?_) (fun c_12 => ?_)
    · have h := it_l c_12 h
      refine lv_aload_n hx hb dX2_scaledAfter_38 rfl (lv_at hl 0 rfl) ?_
      refine va_get (D := D) (ci := 2) (v := .ref (b 3)) (C := RX2) (T := TX2) (N := 15) hx hb hts w_1 hown hK hP 0 rfl rfl 7 (by decide) w_2 (fun _ h9 => h9) rfl dX2_scaledAfter_39 ?_
      refine lv_iconst (v := 0) hx hb dX2_scaledAfter_42 (by decide) ?_
      refine lv_aload_n hx hb dX2_scaledAfter_43 rfl (lv_at hl 0 rfl) ?_
      refine va_get (D := D) (ci := 2) (v := .ref (b 4)) (C := RX2) (T := TX2) (N := 15) hx hb hts w_1 hown hK hP 0 rfl rfl 8 (by decide) w_0 (fun _ h9 => h9) rfl dX2_scaledAfter_44 ?_
      refine lv_iconst (v := 0) hx hb dX2_scaledAfter_47 (by decide) ?_
      refine lv_bipush (v := 64) hx hb dX2_scaledAfter_48 (by decide) ?_
      obtain ⟨q_13, hv_14, h⟩ := bd_l h
      obtain ⟨q_15, eq_15⟩ : ∃ y : MdV, y = mu_tri q_10 q_13 := ⟨_, rfl⟩
      have h := nm_l h eq_15
      refine Ck_S (As := [.ref (b 3), .int 0, .ref (b 4), .int 0, .int 64]) (rest := []) (wc := [(b 3, .inl (k 0, 64, .inl (m_now q_10)))] ++ [(b 4, .inl (k 0, 64, .inl (m_tri q_10)))]) (wc' := [(b 3, .inl (k 0, 64, .inl (m_now q_10)))] ++ [(b 4, .inl (k 0, 64, .inl q_13))]) (w0' := mdW k b q_15) ⟨hx, hb, hml, hown, hts⟩ (c_X2_copy l D k (b 3) (b 4) 64 64 (m_now q_10) (m_tri q_10) 0 0 64 q_13 hv_14) (va_cwS 5 hts gX2_scaledAfter_X2_copy rfl rfl rfl (by decide +kernel) ⟨Nat.le_of_ble_eq_true rfl, Nat.le_of_ble_eq_true rfl⟩) hK hP hD hS hA [3, 4] rfl (by decide) rfl (by rw [eq_15]; simp only [va_sets, List.cons_append, List.nil_append, md_set_0, md_self_now, md_set_tri]) rfl hl.1 rfl (Nat.le_of_ble_eq_true rfl) dX2_scaledAfter_50 ⟨Nat.le_of_ble_eq_true rfl, Nat.le_of_ble_eq_true rfl⟩ (fun H locs hP hD hS => ?_)
      refine W.eq (g2 := F0 m 53 ls []) rfl ?_
      refine lv_iconst (v := 0) hx hb dX2_scaledAfter_53 (by decide) ?_
      refine lv_istore_n (lv' := [(3, .int 0), (0, .ref (b 0)), (1, .int p1), (2, .int p2)]) hx hb dX2_scaledAfter_54 rfl hl (by decide) rfl (fun ls hl => ?_)
      exact hC_55 2000 0 q_15 _ _ _ hP hD hS (lv_sub hl [1, 2, 3, 0] rfl) h
    · have h := it_r c_12 h
      refine lv_iconst (v := 0) hx hb dX2_scaledAfter_36 (by decide) ?_
      cases h
      exact Ck_iret hx hb hr hP hD hS dX2_scaledAfter_37 hlocks
  refine lv_aload_n hx hb dX2_scaledAfter_0 rfl (lv_at hl 0 rfl) ?_
  refine lv_aload_n hx hb dX2_scaledAfter_1 rfl (lv_at hl 0 rfl) ?_
  refine lv_iload_n hx hb dX2_scaledAfter_2 rfl (lv_at hl 1 rfl) ?_
  obtain ⟨v_16, hv_17, h⟩ := bd_l h
  refine Ck_V (As := [.int p1]) (rest := [.ref (b 0)]) (wc := [mdO b M]) (wc' := [mdO b M]) (w0' := mdW k b M) ⟨hx, hb, hml, hown, hts⟩ (c_X2_isEffect l D k b M p1 v_16 hv_17) (cwV 1 hts gX2_scaledAfter_X2_isEffect rfl rfl rfl (by decide +kernel) ⟨Nat.le_of_ble_eq_true rfl, Nat.le_of_ble_eq_true rfl⟩) hK hP hD hS hA (q0 := 0) (ci := 2) rfl rfl [0] rfl (by decide) rfl rfl rfl hl.1 rfl (Nat.le_of_ble_eq_true rfl) dX2_scaledAfter_3 ⟨Nat.le_of_ble_eq_true rfl, Nat.le_of_ble_eq_true rfl⟩ (fun H locs hP hD hS => ?_)
  refine W.eq (g2 := F0 m 6 ls [.int v_16, .ref (b 0)]) rfl ?_
  refine lv_if_ne (tgt := 13) hx hb dX2_scaledAfter_6 (by decide) (fun c_18 => ?_) (fun c_18 => ?_)
  · have h := it_r c_18 h
    refine lv_iload_n hx hb dX2_scaledAfter_13 rfl (lv_at hl 2 rfl) ?_
    refine lv_i2l hx hb dX2_scaledAfter_14 rfl ?_
    refine lv_lconst (v := 1) hx hb dX2_scaledAfter_15 (by decide) ?_
    refine lv_ldc2 (v := 99) hx hb hown w_3 dX2_scaledAfter_16 ?_
    obtain ⟨v_19, hv_20, h⟩ := bd_l h
    refine Ck_S (As := [.long (p2.toInt64), .long 1, .long 99]) (rest := [.ref (b 0)]) (wc := ([] : va_W)) (wc' := ([] : va_W)) (w0' := mdW k b M) ⟨hx, hb, hml, hown, hts⟩ (c_X2_in l D k  (p2.toInt64) 1 99 v_19 hv_20) (va_cwS 3 hts gX2_scaledAfter_X2_in rfl rfl rfl (by decide +kernel) ⟨Nat.le_of_ble_eq_true rfl, Nat.le_of_ble_eq_true rfl⟩) hK hP hD hS hA [] rfl (by decide) rfl rfl rfl hl.1 rfl (Nat.le_of_ble_eq_true rfl) dX2_scaledAfter_19 ⟨Nat.le_of_ble_eq_true rfl, Nat.le_of_ble_eq_true rfl⟩ (fun H locs hP hD hS => ?_)
    refine W.eq (g2 := F0 m 22 ls [.int v_19, .ref (b 0)]) rfl ?_
    refine lv_if_ne (tgt := 29) hx hb dX2_scaledAfter_22 (by decide) (fun c_21 => ?_) (fun c_21 => ?_)
    · have h := it_r c_21 h
      refine lv_iconst (v := 0) hx hb dX2_scaledAfter_29 (by decide) ?_
      exact hC_30 0 _ _ _ hP hD hS (lv_sub hl [0, 1, 2] rfl) h
    · have h := it_l c_21 h
      refine lv_iconst (v := 2) hx hb dX2_scaledAfter_25 (by decide) ?_
      refine lv_goto (tgt := 30) hx hb dX2_scaledAfter_26 (by decide) ?_
      exact hC_30 2 _ _ _ hP hD hS (lv_sub hl [0, 1, 2] rfl) h
  · have h := it_l c_18 h
    refine lv_iconst (v := 1) hx hb dX2_scaledAfter_9 (by decide) ?_
    refine lv_goto (tgt := 30) hx hb dX2_scaledAfter_10 (by decide) ?_
    exact hC_30 1 _ _ _ hP hD hS (lv_sub hl [0, 1, 2] rfl) h
def f_X2_steamFor_40 (p1 : Int32) (p2 : Int32) : Nat → Int32 → MdV → Option (Int32 × MdV)
  | 0, _, _ => none
  | fu + 1, x3_40, M_40 => if 999 < x3_40 then (some ((-9), M_40)) else (bd (f_X2_copy 64 64 (m_now M_40) (m_tri M_40) 0 0 64) fun q_2 => nm (mu_tri M_40 q_2) fun q_4 => nm (mu_tri q_4 (upd (m_tri q_4) 48 x3_40)) fun q_5 => bd (f_X2_ticksOn q_5 (m_tri q_5) (m_flo q_5) (m_sal q_5) p2) fun ⟨v_6, q_7, q_8, q_9⟩ => nm (mu_sal (mu_flo (mu_tri q_5 q_7) q_8) q_9) fun q_11 => if v_6 < p1 then ((f_X2_steamFor_40 p1 p2 fu) (x3_40 + 1) q_11) else (some (x3_40, q_11)))
def f_X2_steamFor (M : MdV) (p1 : Int32) (p2 : Int32) : Option (Int32 × MdV) := bd (f_X2_in (p1.toInt64) 0 9999) fun v_13 => if v_13 = 0 then (bd (f_X2_refused M 1) fun ⟨v_16, q_17⟩ => if v_16 = 0 then (f_X2_steamFor_40 p1 p2 2000 0 q_17) else (some (0, q_17))) else (bd (f_X2_in (p2.toInt64) 1 20) fun v_20 => if v_20 = 0 then (bd (f_X2_refused M 1) fun ⟨v_23, q_24⟩ => if v_23 = 0 then (f_X2_steamFor_40 p1 p2 2000 0 q_24) else (some (0, q_24))) else (bd (f_X2_refused M 0) fun ⟨v_27, q_28⟩ => if v_27 = 0 then (f_X2_steamFor_40 p1 p2 2000 0 q_28) else (some (0, q_28))))
set_option maxRecDepth 100000 in
set_option maxHeartbeats 4000000 in
theorem c_X2_steamFor (l : Launch) (D : va_G) (k : Nat → ClassId) (b : Nat → Nat) (M : MdV) (p1 : Int32) (p2 : Int32) (o0 : Int32) (o1 : MdV) (h : f_X2_steamFor M p1 p2 = some (o0, o1)) : Ck l D (tyK k) yX2_steamFor wsX2_steamFor ({ frames := 5, cells := 0, slots := 0, locals := 118 } : Room) [.ref (b 0), .int p1, .int p2] (mdW k b M) (some (.int o0)) (mdW k b o1) := by
  refine Ck_of (cc := cX2_steamFor) (maxL := 4) (ret := (some .int)) (by decide) rfl (Nat.le_of_ble_eq_true rfl) ?_
  intro p e s m args below meth c A ls hx hb hr hml hts hown hlocks hK hA hP hD hS hl
  have hl : lv_has ls 4 [(0, .ref (b 0)), (1, .int p1), (2, .int p2)] := hl
  have hP : va_P D vwCl (mdW k b M) s.heap := hP
  have w_0 := hts (.fieldLink RX2 16 "EffectTrainModel" "now" "[I") (by decide +kernel)
  have w_1 : ∀ w ∈ wsX20, w ∈ wsX2_steamFor := by decide +kernel
  have w_2 := hts (.fieldLink RX2 19 "EffectTrainModel" "trial" "[I") (by decide +kernel)
  have w_3 := hts (.constantLong RX2 163 (9999)) (by decide +kernel)
  have w_4 := hts (.constantLong RX2 149 (20)) (by decide +kernel)
  unfold f_X2_steamFor at h
  have hC_40 : ∀ (fu_40 : Nat) (x3_40 : Int32) (M_40 : MdV) (H : Heap) (locs : List Loc) (ls : Array Slot), va_P D vwCl (mdW k b M_40) H → va_D A (mdW k b M_40) → va_S A s.heap H locs → lv_has ls 4 [(0, .ref (b 0)), (1, .int p1), (2, .int p2), (3, .int x3_40)] → f_X2_steamFor_40 p1 p2 fu_40 x3_40 M_40 = some (o0, o1) → W p l e ({ frames := 5, cells := 0, slots := 0, locals := 118 } : Room) s m args below meth c H locs 0 0 (MQ below (Qk D A (some (.int o0)) (mdW k b o1)) args s 0 0 A) (F0 m 40 ls []) := by
    intro fu_40
    induction fu_40 with
    | zero => intro x3_40 M_40 H locs ls _ _ _ _ h; exact (no_l h).elim
    | succ fu_40 ih_40 =>
      intro x3_40 M_40 H locs ls hP hD hS hl h
      rw [f_X2_steamFor_40] at h
      refine lv_iload_n hx hb dX2_steamFor_40 rfl (lv_at hl 3 rfl) ?_
      refine lv_sipush (v := 999) hx hb dX2_steamFor_41 (by decide) ?_
      refine lv_icmp_gt (tgt := 91) hx hb dX2_steamFor_44 (by decide) (fun c_1 => ?_) (fun c_1 => ?_)
      · have h := it_l c_1 h
        refine lv_bipush (v := (-9)) hx hb dX2_steamFor_91 (by decide) ?_
        cases h
        exact Ck_iret hx hb hr hP hD hS dX2_steamFor_93 hlocks
      · have h := it_r c_1 h
        refine lv_aload_n hx hb dX2_steamFor_47 rfl (lv_at hl 0 rfl) ?_
        refine va_get (D := D) (ci := 2) (v := .ref (b 3)) (C := RX2) (T := TX2) (N := 15) hx hb hts w_1 hown hK hP 0 rfl rfl 7 (by decide) w_0 (fun _ h9 => h9) rfl dX2_steamFor_48 ?_
        refine lv_iconst (v := 0) hx hb dX2_steamFor_51 (by decide) ?_
        refine lv_aload_n hx hb dX2_steamFor_52 rfl (lv_at hl 0 rfl) ?_
        refine va_get (D := D) (ci := 2) (v := .ref (b 4)) (C := RX2) (T := TX2) (N := 15) hx hb hts w_1 hown hK hP 0 rfl rfl 8 (by decide) w_2 (fun _ h9 => h9) rfl dX2_steamFor_53 ?_
        refine lv_iconst (v := 0) hx hb dX2_steamFor_56 (by decide) ?_
        refine lv_bipush (v := 64) hx hb dX2_steamFor_57 (by decide) ?_
        obtain ⟨q_2, hv_3, h⟩ := bd_l h
        obtain ⟨q_4, eq_4⟩ : ∃ y : MdV, y = mu_tri M_40 q_2 := ⟨_, rfl⟩
        have h := nm_l h eq_4
        refine Ck_S (As := [.ref (b 3), .int 0, .ref (b 4), .int 0, .int 64]) (rest := []) (wc := [(b 3, .inl (k 0, 64, .inl (m_now M_40)))] ++ [(b 4, .inl (k 0, 64, .inl (m_tri M_40)))]) (wc' := [(b 3, .inl (k 0, 64, .inl (m_now M_40)))] ++ [(b 4, .inl (k 0, 64, .inl q_2))]) (w0' := mdW k b q_4) ⟨hx, hb, hml, hown, hts⟩ (c_X2_copy l D k (b 3) (b 4) 64 64 (m_now M_40) (m_tri M_40) 0 0 64 q_2 hv_3) (va_cwS 5 hts gX2_steamFor_X2_copy rfl rfl rfl (by decide +kernel) ⟨Nat.le_of_ble_eq_true rfl, Nat.le_of_ble_eq_true rfl⟩) hK hP hD hS hA [3, 4] rfl (by decide) rfl (by rw [eq_4]; simp only [va_sets, List.cons_append, List.nil_append, md_set_0, md_self_now, md_set_tri]) rfl hl.1 rfl (Nat.le_of_ble_eq_true rfl) dX2_steamFor_59 ⟨Nat.le_of_ble_eq_true rfl, Nat.le_of_ble_eq_true rfl⟩ (fun H locs hP hD hS => ?_)
        refine W.eq (g2 := F0 m 62 ls []) rfl ?_
        refine lv_aload_n hx hb dX2_steamFor_62 rfl (lv_at hl 0 rfl) ?_
        refine va_get (D := D) (ci := 2) (v := .ref (b 4)) (C := RX2) (T := TX2) (N := 15) hx hb hts w_1 hown hK hP 0 rfl rfl 8 (by decide) w_2 (fun _ h9 => h9) rfl dX2_steamFor_63 ?_
        refine lv_bipush (v := 48) hx hb dX2_steamFor_66 (by decide) ?_
        refine lv_iload_n hx hb dX2_steamFor_68 rfl (lv_at hl 3 rfl) ?_
        refine va_iast hx hb hK hP hD hS 4 0 rfl rfl (inb_vp (by decide)) dX2_steamFor_69 (fun H locs hP hD hS => ?_)
        obtain ⟨q_5, eq_5⟩ : ∃ y : MdV, y = mu_tri q_4 (upd (m_tri q_4) 48 x3_40) := ⟨_, rfl⟩
        have hP : va_P D vwCl (mdW k b q_5) H := by rw [eq_5, ← md_set_tri k b q_4 _]; exact hP
        have hD : va_D A (mdW k b q_5) := by rw [eq_5, ← md_set_tri k b q_4 _]; exact hD
        have h := nm_l h eq_5
        refine lv_aload_n hx hb dX2_steamFor_70 rfl (lv_at hl 0 rfl) ?_
        refine lv_aload_n hx hb dX2_steamFor_71 rfl (lv_at hl 0 rfl) ?_
        refine va_get (D := D) (ci := 2) (v := .ref (b 4)) (C := RX2) (T := TX2) (N := 15) hx hb hts w_1 hown hK hP 0 rfl rfl 8 (by decide) w_2 (fun _ h9 => h9) rfl dX2_steamFor_72 ?_
        refine lv_iload_n hx hb dX2_steamFor_75 rfl (lv_at hl 2 rfl) ?_
        obtain ⟨⟨v_6, q_7, q_8, q_9⟩, hv_10, h⟩ := bd_l h
        obtain ⟨q_11, eq_11⟩ : ∃ y : MdV, y = mu_sal (mu_flo (mu_tri q_5 q_7) q_8) q_9 := ⟨_, rfl⟩
        have h := nm_l h eq_11
        refine Ck_V (As := [.ref (b 4), .int p2]) (rest := []) (wc := [mdO b q_5] ++ [(b 4, .inl (k 0, 64, .inl (m_tri q_5)))] ++ [(b 8, .inl (k 0, 6, .inl (m_flo q_5)))] ++ [(b 9, .inl (k 0, 6, .inl (m_sal q_5)))]) (wc' := [mdO b q_5] ++ [(b 4, .inl (k 0, 64, .inl q_7))] ++ [(b 8, .inl (k 0, 6, .inl q_8))] ++ [(b 9, .inl (k 0, 6, .inl q_9))]) (w0' := mdW k b q_11) ⟨hx, hb, hml, hown, hts⟩ (c_X2_ticksOn l D k b (b 4) q_5 (m_tri q_5) (m_flo q_5) (m_sal q_5) p2 v_6 q_7 q_8 q_9 hv_10) (cwV 2 hts gX2_steamFor_X2_ticksOn rfl rfl rfl (by decide +kernel) ⟨Nat.le_of_ble_eq_true rfl, Nat.le_of_ble_eq_true rfl⟩) hK hP hD hS hA (q0 := 0) (ci := 2) rfl rfl [0, 4, 8, 9] rfl (by decide) rfl (by rw [eq_11]; simp only [va_sets, List.cons_append, List.nil_append, md_set_0, md_set_tri, md_set_flo, md_set_sal]) rfl hl.1 rfl (Nat.le_of_ble_eq_true rfl) dX2_steamFor_76 ⟨Nat.le_of_ble_eq_true rfl, Nat.le_of_ble_eq_true rfl⟩ (fun H locs hP hD hS => ?_)
        refine W.eq (g2 := F0 m 79 ls [.int v_6]) rfl ?_
        refine lv_iload_n hx hb dX2_steamFor_79 rfl (lv_at hl 1 rfl) ?_
        refine lv_icmp_lt (tgt := 85) hx hb dX2_steamFor_80 (by decide) (fun c_12 => ?_) (fun c_12 => ?_)
        · have h := it_l c_12 h
          refine lv_iinc (v := (x3_40 + 1)) (lv' := [(3, .int (x3_40 + 1)), (0, .ref (b 0)), (1, .int p1), (2, .int p2)]) hx hb dX2_steamFor_85 hl (k := 3) rfl rfl (by decide) rfl (fun ls hl => ?_)
          refine lv_goto (tgt := 40) hx hb dX2_steamFor_88 (by decide) ?_
          exact ih_40 (x3_40 + 1) q_11 _ _ _ hP hD hS (lv_sub hl [1, 2, 3, 0] rfl) h
        · have h := it_r c_12 h
          refine lv_iload_n hx hb dX2_steamFor_83 rfl (lv_at hl 3 rfl) ?_
          cases h
          exact Ck_iret hx hb hr hP hD hS dX2_steamFor_84 hlocks
  refine lv_aload_n hx hb dX2_steamFor_0 rfl (lv_at hl 0 rfl) ?_
  refine lv_iload_n hx hb dX2_steamFor_1 rfl (lv_at hl 1 rfl) ?_
  refine lv_i2l hx hb dX2_steamFor_2 rfl ?_
  refine lv_lconst (v := 0) hx hb dX2_steamFor_3 (by decide) ?_
  refine lv_ldc2 (v := 9999) hx hb hown w_3 dX2_steamFor_4 ?_
  obtain ⟨v_13, hv_14, h⟩ := bd_l h
  refine Ck_S (As := [.long (p1.toInt64), .long 0, .long 9999]) (rest := [.ref (b 0)]) (wc := ([] : va_W)) (wc' := ([] : va_W)) (w0' := mdW k b M) ⟨hx, hb, hml, hown, hts⟩ (c_X2_in l D k  (p1.toInt64) 0 9999 v_13 hv_14) (va_cwS 3 hts gX2_steamFor_X2_in rfl rfl rfl (by decide +kernel) ⟨Nat.le_of_ble_eq_true rfl, Nat.le_of_ble_eq_true rfl⟩) hK hP hD hS hA [] rfl (by decide) rfl rfl rfl hl.1 rfl (Nat.le_of_ble_eq_true rfl) dX2_steamFor_7 ⟨Nat.le_of_ble_eq_true rfl, Nat.le_of_ble_eq_true rfl⟩ (fun H locs hP hD hS => ?_)
  refine W.eq (g2 := F0 m 10 ls [.int v_13, .ref (b 0)]) rfl ?_
  refine lv_if_eq (tgt := 29) hx hb dX2_steamFor_10 (by decide) (fun c_15 => ?_) (fun c_15 => ?_)
  · have h := it_l c_15 h
    refine lv_iconst (v := 1) hx hb dX2_steamFor_29 (by decide) ?_
    obtain ⟨⟨v_16, q_17⟩, hv_18, h⟩ := bd_l h
    refine Ck_V (As := [.int 1]) (rest := []) (wc := mdW k b M) (wc' := mdW k b q_17) (w0' := mdW k b q_17) ⟨hx, hb, hml, hown, hts⟩ (c_X2_refused l D k b M 1 v_16 q_17 hv_18) (cwV 1 hts gX2_steamFor_X2_refused rfl rfl rfl (by decide +kernel) ⟨Nat.le_of_ble_eq_true rfl, Nat.le_of_ble_eq_true rfl⟩) hK hP hD hS hA (q0 := 0) (ci := 2) rfl rfl [0, 1, 2, 3, 4, 5, 6, 7, 8, 9] rfl (by decide) rfl rfl rfl hl.1 rfl (Nat.le_of_ble_eq_true rfl) dX2_steamFor_30 ⟨Nat.le_of_ble_eq_true rfl, Nat.le_of_ble_eq_true rfl⟩ (fun H locs hP hD hS => ?_)
    refine W.eq (g2 := F0 m 33 ls [.int v_16]) rfl ?_
    refine lv_if_eq (tgt := 38) hx hb dX2_steamFor_33 (by decide) (fun c_19 => ?_) (fun c_19 => ?_)
    · have h := it_l c_19 h
      refine lv_iconst (v := 0) hx hb dX2_steamFor_38 (by decide) ?_
      refine lv_istore_n (lv' := [(3, .int 0), (0, .ref (b 0)), (1, .int p1), (2, .int p2)]) hx hb dX2_steamFor_39 rfl hl (by decide) rfl (fun ls hl => ?_)
      exact hC_40 2000 0 q_17 _ _ _ hP hD hS (lv_sub hl [1, 2, 3, 0] rfl) h
    · have h := it_r c_19 h
      refine lv_iconst (v := 0) hx hb dX2_steamFor_36 (by decide) ?_
      cases h
      exact Ck_iret hx hb hr hP hD hS dX2_steamFor_37 hlocks
  · have h := it_r c_15 h
    refine lv_iload_n hx hb dX2_steamFor_13 rfl (lv_at hl 2 rfl) ?_
    refine lv_i2l hx hb dX2_steamFor_14 rfl ?_
    refine lv_lconst (v := 1) hx hb dX2_steamFor_15 (by decide) ?_
    refine lv_ldc2 (v := 20) hx hb hown w_4 dX2_steamFor_16 ?_
    obtain ⟨v_20, hv_21, h⟩ := bd_l h
    refine Ck_S (As := [.long (p2.toInt64), .long 1, .long 20]) (rest := [.ref (b 0)]) (wc := ([] : va_W)) (wc' := ([] : va_W)) (w0' := mdW k b M) ⟨hx, hb, hml, hown, hts⟩ (c_X2_in l D k  (p2.toInt64) 1 20 v_20 hv_21) (va_cwS 3 hts gX2_steamFor_X2_in rfl rfl rfl (by decide +kernel) ⟨Nat.le_of_ble_eq_true rfl, Nat.le_of_ble_eq_true rfl⟩) hK hP hD hS hA [] rfl (by decide) rfl rfl rfl hl.1 rfl (Nat.le_of_ble_eq_true rfl) dX2_steamFor_19 ⟨Nat.le_of_ble_eq_true rfl, Nat.le_of_ble_eq_true rfl⟩ (fun H locs hP hD hS => ?_)
    refine W.eq (g2 := F0 m 22 ls [.int v_20, .ref (b 0)]) rfl ?_
    refine lv_if_eq (tgt := 29) hx hb dX2_steamFor_22 (by decide) (fun c_22 => ?_) (fun c_22 => ?_)
    · have h := it_l c_22 h
      refine lv_iconst (v := 1) hx hb dX2_steamFor_29 (by decide) ?_
      obtain ⟨⟨v_23, q_24⟩, hv_25, h⟩ := bd_l h
      refine Ck_V (As := [.int 1]) (rest := []) (wc := mdW k b M) (wc' := mdW k b q_24) (w0' := mdW k b q_24) ⟨hx, hb, hml, hown, hts⟩ (c_X2_refused l D k b M 1 v_23 q_24 hv_25) (cwV 1 hts gX2_steamFor_X2_refused rfl rfl rfl (by decide +kernel) ⟨Nat.le_of_ble_eq_true rfl, Nat.le_of_ble_eq_true rfl⟩) hK hP hD hS hA (q0 := 0) (ci := 2) rfl rfl [0, 1, 2, 3, 4, 5, 6, 7, 8, 9] rfl (by decide) rfl rfl rfl hl.1 rfl (Nat.le_of_ble_eq_true rfl) dX2_steamFor_30 ⟨Nat.le_of_ble_eq_true rfl, Nat.le_of_ble_eq_true rfl⟩ (fun H locs hP hD hS => ?_)
      refine W.eq (g2 := F0 m 33 ls [.int v_23]) rfl ?_
      refine lv_if_eq (tgt := 38) hx hb dX2_steamFor_33 (by decide) (fun c_26 => ?_) (fun c_26 => ?_)
      · have h := it_l c_26 h
        refine lv_iconst (v := 0) hx hb dX2_steamFor_38 (by decide) ?_
        refine lv_istore_n (lv' := [(3, .int 0), (0, .ref (b 0)), (1, .int p1), (2, .int p2)]) hx hb dX2_steamFor_39 rfl hl (by decide) rfl (fun ls hl => ?_)
        exact hC_40 2000 0 q_24 _ _ _ hP hD hS (lv_sub hl [1, 2, 3, 0] rfl) h
      · have h := it_r c_26 h
        refine lv_iconst (v := 0) hx hb dX2_steamFor_36 (by decide) ?_
        cases h
        exact Ck_iret hx hb hr hP hD hS dX2_steamFor_37 hlocks
    · have h := it_r c_22 h
      refine lv_iconst (v := 0) hx hb dX2_steamFor_25 (by decide) ?_
      refine lv_goto (tgt := 30) hx hb dX2_steamFor_26 (by decide) ?_
      obtain ⟨⟨v_27, q_28⟩, hv_29, h⟩ := bd_l h
      refine Ck_V (As := [.int 0]) (rest := []) (wc := mdW k b M) (wc' := mdW k b q_28) (w0' := mdW k b q_28) ⟨hx, hb, hml, hown, hts⟩ (c_X2_refused l D k b M 0 v_27 q_28 hv_29) (cwV 1 hts gX2_steamFor_X2_refused rfl rfl rfl (by decide +kernel) ⟨Nat.le_of_ble_eq_true rfl, Nat.le_of_ble_eq_true rfl⟩) hK hP hD hS hA (q0 := 0) (ci := 2) rfl rfl [0, 1, 2, 3, 4, 5, 6, 7, 8, 9] rfl (by decide) rfl rfl rfl hl.1 rfl (Nat.le_of_ble_eq_true rfl) dX2_steamFor_30 ⟨Nat.le_of_ble_eq_true rfl, Nat.le_of_ble_eq_true rfl⟩ (fun H locs hP hD hS => ?_)
      refine W.eq (g2 := F0 m 33 ls [.int v_27]) rfl ?_
      refine lv_if_eq (tgt := 38) hx hb dX2_steamFor_33 (by decide) (fun c_30 => ?_) (fun c_30 => ?_)
      · have h := it_l c_30 h
        refine lv_iconst (v := 0) hx hb dX2_steamFor_38 (by decide) ?_
        refine lv_istore_n (lv' := [(3, .int 0), (0, .ref (b 0)), (1, .int p1), (2, .int p2)]) hx hb dX2_steamFor_39 rfl hl (by decide) rfl (fun ls hl => ?_)
        exact hC_40 2000 0 q_28 _ _ _ hP hD hS (lv_sub hl [1, 2, 3, 0] rfl) h
      · have h := it_r c_30 h
        refine lv_iconst (v := 0) hx hb dX2_steamFor_36 (by decide) ?_
        cases h
        exact Ck_iret hx hb hr hP hD hS dX2_steamFor_37 hlocks
def f_X2_runScript_60 (p1 : Int32) (p2 : Int64) : Nat → Int32 → MdV → Option (Int32 × MdV)
  | 0, _, _ => none
  | fu + 1, x4_60, M_60 => if p1 ≤ x4_60 then (some ((-9), M_60)) else (bd (f_X2_tenTo (5 * ((p1 - 1) - x4_60))) fun v_2 => gb (nzl v_2) <| bd (f_X2_command M_60 (((p2 / v_2) - (p2 / v_2) / 100000 * 100000).toInt32)) fun ⟨v_5, q_6⟩ => if v_5 = 0 then (some (x4_60, q_6)) else ((f_X2_runScript_60 p1 p2 fu) (x4_60 + 1) q_6))
def f_X2_runScript_34 (M : MdV) (p1 : Int32) (p2 : Int64) (t0_34 : Int32) : Option (Int32 × MdV) := bd (f_X2_refused M t0_34) fun ⟨v_9, q_10⟩ => if v_9 = 0 then (bd (f_X2_copy 64 64 (m_now q_10) (m_tri q_10) 0 0 64) fun q_13 => nm (mu_tri q_10 q_13) fun q_15 => f_X2_runScript_60 p1 p2 2000 0 q_15) else (some (0, q_10))
def f_X2_runScript_33 (M : MdV) (p1 : Int32) (p2 : Int64) : Option (Int32 × MdV) := f_X2_runScript_34 M p1 p2 1
def f_X2_runScript (M : MdV) (p1 : Int32) (p2 : Int64) : Option (Int32 × MdV) := bd (f_X2_in (p1.toInt64) 1 3) fun v_16 => if v_16 = 0 then (f_X2_runScript_33 M p1 p2) else (bd (f_X2_tenTo (5 * p1)) fun v_19 => bd (f_X2_in p2 0 (v_19 - 1)) fun v_21 => if v_21 = 0 then (f_X2_runScript_33 M p1 p2) else (f_X2_runScript_34 M p1 p2 0))
set_option maxRecDepth 100000 in
set_option maxHeartbeats 4000000 in
theorem c_X2_runScript (l : Launch) (D : va_G) (k : Nat → ClassId) (b : Nat → Nat) (M : MdV) (p1 : Int32) (p2 : Int64) (o0 : Int32) (o1 : MdV) (h : f_X2_runScript M p1 p2 = some (o0, o1)) : Ck l D (tyK k) yX2_runScript wsX2_runScript ({ frames := 6, cells := 0, slots := 0, locals := 144 } : Room) [.ref (b 0), .int p1, .long p2] (mdW k b M) (some (.int o0)) (mdW k b o1) := by
  refine Ck_of (cc := cX2_runScript) (maxL := 5) (ret := (some .int)) (by decide) rfl (Nat.le_of_ble_eq_true rfl) ?_
  intro p e s m args below meth c A ls hx hb hr hml hts hown hlocks hK hA hP hD hS hl
  have hl : lv_has ls 5 [(0, .ref (b 0)), (1, .int p1), (2, .long p2)] := hl
  have hP : va_P D vwCl (mdW k b M) s.heap := hP
  have w_0 := hts (.constantLong RX2 165 (100000)) (by decide +kernel)
  have w_1 := hts (.fieldLink RX2 16 "EffectTrainModel" "now" "[I") (by decide +kernel)
  have w_2 : ∀ w ∈ wsX20, w ∈ wsX2_runScript := by decide +kernel
  have w_3 := hts (.fieldLink RX2 19 "EffectTrainModel" "trial" "[I") (by decide +kernel)
  have w_4 := hts (.constantLong RX2 158 (3)) (by decide +kernel)
  unfold f_X2_runScript at h
  have hC_60 : ∀ (fu_60 : Nat) (x4_60 : Int32) (M_60 : MdV) (H : Heap) (locs : List Loc) (ls : Array Slot), va_P D vwCl (mdW k b M_60) H → va_D A (mdW k b M_60) → va_S A s.heap H locs → lv_has ls 5 [(0, .ref (b 0)), (1, .int p1), (2, .long p2), (4, .int x4_60)] → f_X2_runScript_60 p1 p2 fu_60 x4_60 M_60 = some (o0, o1) → W p l e ({ frames := 6, cells := 0, slots := 0, locals := 144 } : Room) s m args below meth c H locs 0 0 (MQ below (Qk D A (some (.int o0)) (mdW k b o1)) args s 0 0 A) (F0 m 60 ls []) := by
    intro fu_60
    induction fu_60 with
    | zero => intro x4_60 M_60 H locs ls _ _ _ _ h; exact (no_l h).elim
    | succ fu_60 ih_60 =>
      intro x4_60 M_60 H locs ls hP hD hS hl h
      rw [f_X2_runScript_60] at h
      refine lv_iload hx hb dX2_runScript_60 (lv_at hl 3 rfl) ?_
      refine lv_iload_n hx hb dX2_runScript_62 rfl (lv_at hl 1 rfl) ?_
      refine lv_icmp_ge (tgt := 100) hx hb dX2_runScript_63 (by decide) (fun c_1 => ?_) (fun c_1 => ?_)
      · have h := it_l c_1 h
        refine lv_bipush (v := (-9)) hx hb dX2_runScript_100 (by decide) ?_
        cases h
        exact Ck_iret hx hb hr hP hD hS dX2_runScript_102 hlocks
      · have h := it_r c_1 h
        refine lv_aload_n hx hb dX2_runScript_66 rfl (lv_at hl 0 rfl) ?_
        refine lv_lload_n hx hb dX2_runScript_67 rfl (lv_at hl 2 rfl) ?_
        refine lv_iconst (v := 5) hx hb dX2_runScript_68 (by decide) ?_
        refine lv_iload_n hx hb dX2_runScript_69 rfl (lv_at hl 1 rfl) ?_
        refine lv_iconst (v := 1) hx hb dX2_runScript_70 (by decide) ?_
        refine lv_isub hx hb dX2_runScript_71 ?_
        refine lv_iload hx hb dX2_runScript_72 (lv_at hl 3 rfl) ?_
        refine lv_isub hx hb dX2_runScript_74 ?_
        refine lv_imul hx hb dX2_runScript_75 ?_
        obtain ⟨v_2, hv_3, h⟩ := bd_l h
        refine Ck_S (As := [.int (5 * ((p1 - 1) - x4_60))]) (rest := [.long p2, .ref (b 0)]) (wc := ([] : va_W)) (wc' := ([] : va_W)) (w0' := mdW k b M_60) ⟨hx, hb, hml, hown, hts⟩ (c_X2_tenTo l D k  (5 * ((p1 - 1) - x4_60)) v_2 hv_3) (va_cwS 1 hts gX2_runScript_X2_tenTo rfl rfl rfl (by decide +kernel) ⟨Nat.le_of_ble_eq_true rfl, Nat.le_of_ble_eq_true rfl⟩) hK hP hD hS hA [] rfl (by decide) rfl rfl rfl hl.1 rfl (Nat.le_of_ble_eq_true rfl) dX2_runScript_76 ⟨Nat.le_of_ble_eq_true rfl, Nat.le_of_ble_eq_true rfl⟩ (fun H locs hP hD hS => ?_)
        refine W.eq (g2 := F0 m 79 ls [.long v_2, .long p2, .ref (b 0)]) rfl ?_
        have g_4 := nzl_l (gb_l h)
        have h := gb_r h
        refine lv_ldiv hx hb dX2_runScript_79 g_4 ?_
        refine lv_ldc2 (v := 100000) hx hb hown w_0 dX2_runScript_80 ?_
        refine lv_lrem hx hb dX2_runScript_83 (by decide) ?_
        refine lv_l2i hx hb dX2_runScript_84 rfl ?_
        obtain ⟨⟨v_5, q_6⟩, hv_7, h⟩ := bd_l h
        refine Ck_V (As := [.int (((p2 / v_2) - (p2 / v_2) / 100000 * 100000).toInt32)]) (rest := []) (wc := mdW k b M_60) (wc' := mdW k b q_6) (w0' := mdW k b q_6) ⟨hx, hb, hml, hown, hts⟩ (c_X2_command l D k b M_60 (((p2 / v_2) - (p2 / v_2) / 100000 * 100000).toInt32) v_5 q_6 hv_7) (cwV 1 hts gX2_runScript_X2_command rfl rfl rfl (by decide +kernel) ⟨Nat.le_of_ble_eq_true rfl, Nat.le_of_ble_eq_true rfl⟩) hK hP hD hS hA (q0 := 0) (ci := 2) rfl rfl [0, 1, 2, 3, 4, 5, 6, 7, 8, 9] rfl (by decide) rfl rfl rfl hl.1 rfl (Nat.le_of_ble_eq_true rfl) dX2_runScript_85 ⟨Nat.le_of_ble_eq_true rfl, Nat.le_of_ble_eq_true rfl⟩ (fun H locs hP hD hS => ?_)
        refine W.eq (g2 := F0 m 88 ls [.int v_5]) rfl ?_
        refine lv_if_ne (tgt := 94) hx hb dX2_runScript_88 (by decide) (fun c_8 => ?_) (fun c_8 => ?_)
        · have h := it_r c_8 h
          refine lv_iinc (v := (x4_60 + 1)) (lv' := [(4, .int (x4_60 + 1)), (0, .ref (b 0)), (1, .int p1), (2, .long p2)]) hx hb dX2_runScript_94 hl (k := 3) rfl rfl (by decide) rfl (fun ls hl => ?_)
          refine lv_goto (tgt := 60) hx hb dX2_runScript_97 (by decide) ?_
          exact ih_60 (x4_60 + 1) q_6 _ _ _ hP hD hS (lv_sub hl [1, 2, 3, 0] rfl) h
        · have h := it_l c_8 h
          refine lv_iload hx hb dX2_runScript_91 (lv_at hl 3 rfl) ?_
          cases h
          exact Ck_iret hx hb hr hP hD hS dX2_runScript_93 hlocks
  have hC_34 : ∀ (t0_34 : Int32) (H : Heap) (locs : List Loc) (ls : Array Slot), va_P D vwCl (mdW k b M) H → va_D A (mdW k b M) → va_S A s.heap H locs → lv_has ls 5 [(0, .ref (b 0)), (1, .int p1), (2, .long p2)] → f_X2_runScript_34 M p1 p2 t0_34 = some (o0, o1) → W p l e ({ frames := 6, cells := 0, slots := 0, locals := 144 } : Room) s m args below meth c H locs 0 0 (MQ below (Qk D A (some (.int o0)) (mdW k b o1)) args s 0 0 A) (F0 m 34 ls [.int t0_34, .ref (b 0)]) := by
    intro t0_34 H locs ls hP hD hS hl h
    unfold f_X2_runScript_34 at h
    obtain ⟨⟨v_9, q_10⟩, hv_11, h⟩ := bd_l h
    refine Ck_V (As := [.int t0_34]) (rest := []) (wc := mdW k b M) (wc' := mdW k b q_10) (w0' := mdW k b q_10) ⟨hx, hb, hml, hown, hts⟩ (c_X2_refused l D k b M t0_34 v_9 q_10 hv_11) (cwV 1 hts gX2_runScript_X2_refused rfl rfl rfl (by decide +kernel) ⟨Nat.le_of_ble_eq_true rfl, Nat.le_of_ble_eq_true rfl⟩) hK hP hD hS hA (q0 := 0) (ci := 2) rfl rfl [0, 1, 2, 3, 4, 5, 6, 7, 8, 9] rfl (by decide) rfl rfl rfl hl.1 rfl (Nat.le_of_ble_eq_true rfl) dX2_runScript_34 ⟨Nat.le_of_ble_eq_true rfl, Nat.le_of_ble_eq_true rfl⟩ (fun H locs hP hD hS => ?_)
    refine W.eq (g2 := F0 m 37 ls [.int v_9]) rfl ?_
    refine lv_if_eq (tgt := 42) hx hb dX2_runScript_37 (by decide) (fun c_12 => ?_) (fun c_12 => ?_)
    · have h := it_l c_12 h
      refine lv_aload_n hx hb dX2_runScript_42 rfl (lv_at hl 0 rfl) ?_
      refine va_get (D := D) (ci := 2) (v := .ref (b 3)) (C := RX2) (T := TX2) (N := 15) hx hb hts w_2 hown hK hP 0 rfl rfl 7 (by decide) w_1 (fun _ h9 => h9) rfl dX2_runScript_43 ?_
      refine lv_iconst (v := 0) hx hb dX2_runScript_46 (by decide) ?_
      refine lv_aload_n hx hb dX2_runScript_47 rfl (lv_at hl 0 rfl) ?_
      refine va_get (D := D) (ci := 2) (v := .ref (b 4)) (C := RX2) (T := TX2) (N := 15) hx hb hts w_2 hown hK hP 0 rfl rfl 8 (by decide) w_3 (fun _ h9 => h9) rfl dX2_runScript_48 ?_
      refine lv_iconst (v := 0) hx hb dX2_runScript_51 (by decide) ?_
      refine lv_bipush (v := 64) hx hb dX2_runScript_52 (by decide) ?_
      obtain ⟨q_13, hv_14, h⟩ := bd_l h
      obtain ⟨q_15, eq_15⟩ : ∃ y : MdV, y = mu_tri q_10 q_13 := ⟨_, rfl⟩
      have h := nm_l h eq_15
      refine Ck_S (As := [.ref (b 3), .int 0, .ref (b 4), .int 0, .int 64]) (rest := []) (wc := [(b 3, .inl (k 0, 64, .inl (m_now q_10)))] ++ [(b 4, .inl (k 0, 64, .inl (m_tri q_10)))]) (wc' := [(b 3, .inl (k 0, 64, .inl (m_now q_10)))] ++ [(b 4, .inl (k 0, 64, .inl q_13))]) (w0' := mdW k b q_15) ⟨hx, hb, hml, hown, hts⟩ (c_X2_copy l D k (b 3) (b 4) 64 64 (m_now q_10) (m_tri q_10) 0 0 64 q_13 hv_14) (va_cwS 5 hts gX2_runScript_X2_copy rfl rfl rfl (by decide +kernel) ⟨Nat.le_of_ble_eq_true rfl, Nat.le_of_ble_eq_true rfl⟩) hK hP hD hS hA [3, 4] rfl (by decide) rfl (by rw [eq_15]; simp only [va_sets, List.cons_append, List.nil_append, md_set_0, md_self_now, md_set_tri]) rfl hl.1 rfl (Nat.le_of_ble_eq_true rfl) dX2_runScript_54 ⟨Nat.le_of_ble_eq_true rfl, Nat.le_of_ble_eq_true rfl⟩ (fun H locs hP hD hS => ?_)
      refine W.eq (g2 := F0 m 57 ls []) rfl ?_
      refine lv_iconst (v := 0) hx hb dX2_runScript_57 (by decide) ?_
      refine lv_istore (lv' := [(4, .int 0), (0, .ref (b 0)), (1, .int p1), (2, .long p2)]) hx hb dX2_runScript_58 hl (by decide) rfl (fun ls hl => ?_)
      exact hC_60 2000 0 q_15 _ _ _ hP hD hS (lv_sub hl [1, 2, 3, 0] rfl) h
    · have h := it_r c_12 h
      refine lv_iconst (v := 0) hx hb dX2_runScript_40 (by decide) ?_
      cases h
      exact Ck_iret hx hb hr hP hD hS dX2_runScript_41 hlocks
  have hC_33 : ∀ (H : Heap) (locs : List Loc) (ls : Array Slot), va_P D vwCl (mdW k b M) H → va_D A (mdW k b M) → va_S A s.heap H locs → lv_has ls 5 [(0, .ref (b 0)), (1, .int p1), (2, .long p2)] → f_X2_runScript_33 M p1 p2  = some (o0, o1) → W p l e ({ frames := 6, cells := 0, slots := 0, locals := 144 } : Room) s m args below meth c H locs 0 0 (MQ below (Qk D A (some (.int o0)) (mdW k b o1)) args s 0 0 A) (F0 m 33 ls [.ref (b 0)]) := by
    intro  H locs ls hP hD hS hl h
    unfold f_X2_runScript_33 at h
    refine lv_iconst (v := 1) hx hb dX2_runScript_33 (by decide) ?_
    exact hC_34 1 _ _ _ hP hD hS (lv_sub hl [0, 1, 2] rfl) h
  refine lv_aload_n hx hb dX2_runScript_0 rfl (lv_at hl 0 rfl) ?_
  refine lv_iload_n hx hb dX2_runScript_1 rfl (lv_at hl 1 rfl) ?_
  refine lv_i2l hx hb dX2_runScript_2 rfl ?_
  refine lv_lconst (v := 1) hx hb dX2_runScript_3 (by decide) ?_
  refine lv_ldc2 (v := 3) hx hb hown w_4 dX2_runScript_4 ?_
  obtain ⟨v_16, hv_17, h⟩ := bd_l h
  refine Ck_S (As := [.long (p1.toInt64), .long 1, .long 3]) (rest := [.ref (b 0)]) (wc := ([] : va_W)) (wc' := ([] : va_W)) (w0' := mdW k b M) ⟨hx, hb, hml, hown, hts⟩ (c_X2_in l D k  (p1.toInt64) 1 3 v_16 hv_17) (va_cwS 3 hts gX2_runScript_X2_in rfl rfl rfl (by decide +kernel) ⟨Nat.le_of_ble_eq_true rfl, Nat.le_of_ble_eq_true rfl⟩) hK hP hD hS hA [] rfl (by decide) rfl rfl rfl hl.1 rfl (Nat.le_of_ble_eq_true rfl) dX2_runScript_7 ⟨Nat.le_of_ble_eq_true rfl, Nat.le_of_ble_eq_true rfl⟩ (fun H locs hP hD hS => ?_)
  refine W.eq (g2 := F0 m 10 ls [.int v_16, .ref (b 0)]) rfl ?_
  refine lv_if_eq (tgt := 33) hx hb dX2_runScript_10 (by decide) (fun c_18 => ?_) (fun c_18 => ?_)
  · have h := it_l c_18 h
    exact hC_33  _ _ _ hP hD hS (lv_sub hl [0, 1, 2] rfl) h
  · have h := it_r c_18 h
    refine lv_lload_n hx hb dX2_runScript_13 rfl (lv_at hl 2 rfl) ?_
    refine lv_lconst (v := 0) hx hb dX2_runScript_14 (by decide) ?_
    refine lv_iconst (v := 5) hx hb dX2_runScript_15 (by decide) ?_
    refine lv_iload_n hx hb dX2_runScript_16 rfl (lv_at hl 1 rfl) ?_
    refine lv_imul hx hb dX2_runScript_17 ?_
    obtain ⟨v_19, hv_20, h⟩ := bd_l h
    refine Ck_S (As := [.int (5 * p1)]) (rest := [.long 0, .long p2, .ref (b 0)]) (wc := ([] : va_W)) (wc' := ([] : va_W)) (w0' := mdW k b M) ⟨hx, hb, hml, hown, hts⟩ (c_X2_tenTo l D k  (5 * p1) v_19 hv_20) (va_cwS 1 hts gX2_runScript_X2_tenTo rfl rfl rfl (by decide +kernel) ⟨Nat.le_of_ble_eq_true rfl, Nat.le_of_ble_eq_true rfl⟩) hK hP hD hS hA [] rfl (by decide) rfl rfl rfl hl.1 rfl (Nat.le_of_ble_eq_true rfl) dX2_runScript_18 ⟨Nat.le_of_ble_eq_true rfl, Nat.le_of_ble_eq_true rfl⟩ (fun H locs hP hD hS => ?_)
    refine W.eq (g2 := F0 m 21 ls [.long v_19, .long 0, .long p2, .ref (b 0)]) rfl ?_
    refine lv_lconst (v := 1) hx hb dX2_runScript_21 (by decide) ?_
    refine lv_lsub hx hb dX2_runScript_22 ?_
    obtain ⟨v_21, hv_22, h⟩ := bd_l h
    refine Ck_S (As := [.long p2, .long 0, .long (v_19 - 1)]) (rest := [.ref (b 0)]) (wc := ([] : va_W)) (wc' := ([] : va_W)) (w0' := mdW k b M) ⟨hx, hb, hml, hown, hts⟩ (c_X2_in l D k  p2 0 (v_19 - 1) v_21 hv_22) (va_cwS 3 hts gX2_runScript_X2_in rfl rfl rfl (by decide +kernel) ⟨Nat.le_of_ble_eq_true rfl, Nat.le_of_ble_eq_true rfl⟩) hK hP hD hS hA [] rfl (by decide) rfl rfl rfl hl.1 rfl (Nat.le_of_ble_eq_true rfl) dX2_runScript_23 ⟨Nat.le_of_ble_eq_true rfl, Nat.le_of_ble_eq_true rfl⟩ (fun H locs hP hD hS => ?_)
    refine W.eq (g2 := F0 m 26 ls [.int v_21, .ref (b 0)]) rfl ?_
    refine lv_if_eq (tgt := 33) hx hb dX2_runScript_26 (by decide) (fun c_23 => ?_) (fun c_23 => ?_)
    · have h := it_l c_23 h
      exact hC_33  _ _ _ hP hD hS (lv_sub hl [0, 1, 2] rfl) h
    · have h := it_r c_23 h
      refine lv_iconst (v := 0) hx hb dX2_runScript_29 (by decide) ?_
      refine lv_goto (tgt := 34) hx hb dX2_runScript_30 (by decide) ?_
      exact hC_34 0 _ _ _ hP hD hS (lv_sub hl [0, 1, 2] rfl) h
def f_X2_simulate_47 (p2 : Int32) : Nat → Int64 → Int32 → MdV → Option (Int32 × MdV)
  | 0, _, _, _ => none
  | fu + 1, x4_47, x6_47, M_47 => if p2 ≤ x6_47 then (some ((((m_tri M_47) 55) - ((m_now M_47) 55)), M_47)) else (nm ((x4_47 * 6364136223846793005) + 1442695040888963407) fun v_2 => nm (((v_2.toUInt64 >>> ((33 : Int32).toInt64.toUInt64 &&& Int64.toUInt64 63)).toInt64).toInt32) fun v_3 => gb (nz (m_n M_47)) <| nm ((v_3 / 4) - (v_3 / 4) / (m_n M_47) * (m_n M_47)) fun v_5 => if (v_3 - v_3 / 4 * 4) = 0 then (gb (inb (18 + v_5) 64) <| nm (mu_tri M_47 (upd (m_tri M_47) (18 + v_5).toNatClampNeg ((v_3 / 64) - (v_3 / 64) / 200 * 200))) fun q_36 => bd (f_X2_tickOn q_36 (m_tri q_36) (m_flo q_36) (m_sal q_36)) fun ⟨q_37, q_38, q_39⟩ => nm (mu_sal (mu_flo (mu_tri q_36 q_37) q_38) q_39) fun q_41 => (f_X2_simulate_47 p2 fu) v_2 (x6_47 + 1) q_41) else (if (v_3 - v_3 / 4 * 4) = 1 then (nm (mu_tri M_47 (upd (m_tri M_47) 48 ((v_3 / 64) - (v_3 / 64) / 400 * 400))) fun q_29 => bd (f_X2_tickOn q_29 (m_tri q_29) (m_flo q_29) (m_sal q_29)) fun ⟨q_30, q_31, q_32⟩ => nm (mu_sal (mu_flo (mu_tri q_29 q_30) q_31) q_32) fun q_34 => (f_X2_simulate_47 p2 fu) v_2 (x6_47 + 1) q_34) else (if (v_3 - v_3 / 4 * 4) = 2 then (bd (f_X2_works (m_tri M_47) v_5) fun v_14 => if v_14 = 0 then (bd (f_X2_tickOn M_47 (m_tri M_47) (m_flo M_47) (m_sal M_47)) fun ⟨q_17, q_18, q_19⟩ => nm (mu_sal (mu_flo (mu_tri M_47 q_17) q_18) q_19) fun q_21 => (f_X2_simulate_47 p2 fu) v_2 (x6_47 + 1) q_21) else (gb (inb (42 + v_5) 64) <| nm (mu_tri M_47 (upd (m_tri M_47) (42 + v_5).toNatClampNeg 5)) fun q_23 => bd (f_X2_tickOn q_23 (m_tri q_23) (m_flo q_23) (m_sal q_23)) fun ⟨q_24, q_25, q_26⟩ => nm (mu_sal (mu_flo (mu_tri q_23 q_24) q_25) q_26) fun q_28 => (f_X2_simulate_47 p2 fu) v_2 (x6_47 + 1) q_28)) else (bd (f_X2_tickOn M_47 (m_tri M_47) (m_flo M_47) (m_sal M_47)) fun ⟨q_9, q_10, q_11⟩ => nm (mu_sal (mu_flo (mu_tri M_47 q_9) q_10) q_11) fun q_13 => (f_X2_simulate_47 p2 fu) v_2 (x6_47 + 1) q_13))))
def f_X2_simulate_18 (M : MdV) (p1 : Int64) (p2 : Int32) (t0_18 : Int32) : Option (Int32 × MdV) := bd (f_X2_refused M t0_18) fun ⟨v_42, q_43⟩ => if v_42 = 0 then (bd (f_X2_copy 64 64 (m_now q_43) (m_tri q_43) 0 0 64) fun q_46 => nm (mu_tri q_43 q_46) fun q_48 => f_X2_simulate_47 p2 2000 p1 0 q_48) else (some (0, q_43))
def f_X2_simulate (M : MdV) (p1 : Int64) (p2 : Int32) : Option (Int32 × MdV) := bd (f_X2_in (p2.toInt64) 1 99) fun v_49 => if v_49 = 0 then (f_X2_simulate_18 M p1 p2 1) else (f_X2_simulate_18 M p1 p2 0)
set_option maxRecDepth 100000 in
set_option maxHeartbeats 4000000 in
theorem c_X2_simulate (l : Launch) (D : va_G) (k : Nat → ClassId) (b : Nat → Nat) (M : MdV) (p1 : Int64) (p2 : Int32) (o0 : Int32) (o1 : MdV) (h : f_X2_simulate M p1 p2 = some (o0, o1)) : Ck l D (tyK k) yX2_simulate wsX2_simulate ({ frames := 4, cells := 0, slots := 0, locals := 94 } : Room) [.ref (b 0), .long p1, .int p2] (mdW k b M) (some (.int o0)) (mdW k b o1) := by
  refine Ck_of (cc := cX2_simulate) (maxL := 9) (ret := (some .int)) (by decide) rfl (Nat.le_of_ble_eq_true rfl) ?_
  intro p e s m args below meth c A ls hx hb hr hml hts hown hlocks hK hA hP hD hS hl
  have hl : lv_has ls 9 [(0, .ref (b 0)), (1, .long p1), (3, .int p2)] := hl
  have hP : va_P D vwCl (mdW k b M) s.heap := hP
  have w_0 := hts (.fieldLink RX2 19 "EffectTrainModel" "trial" "[I") (by decide +kernel)
  have w_1 : ∀ w ∈ wsX20, w ∈ wsX2_simulate := by decide +kernel
  have w_2 := hts (.fieldLink RX2 16 "EffectTrainModel" "now" "[I") (by decide +kernel)
  have w_3 := hts (.constantLong RX2 170 (6364136223846793005)) (by decide +kernel)
  have w_4 := hts (.constantLong RX2 172 (1442695040888963407)) (by decide +kernel)
  have w_5 := hts (.fieldLink RX2 38 "EffectTrainModel" "n" "I") (by decide +kernel)
  have w_6 := hts (.constantLong RX2 139 (99)) (by decide +kernel)
  unfold f_X2_simulate at h
  have hC_47 : ∀ (fu_47 : Nat) (x4_47 : Int64) (x6_47 : Int32) (M_47 : MdV) (H : Heap) (locs : List Loc) (ls : Array Slot), va_P D vwCl (mdW k b M_47) H → va_D A (mdW k b M_47) → va_S A s.heap H locs → lv_has ls 9 [(0, .ref (b 0)), (3, .int p2), (4, .long x4_47), (6, .int x6_47)] → f_X2_simulate_47 p2 fu_47 x4_47 x6_47 M_47 = some (o0, o1) → W p l e ({ frames := 4, cells := 0, slots := 0, locals := 94 } : Room) s m args below meth c H locs 0 0 (MQ below (Qk D A (some (.int o0)) (mdW k b o1)) args s 0 0 A) (F0 m 47 ls []) := by
    intro fu_47
    induction fu_47 with
    | zero => intro x4_47 x6_47 M_47 H locs ls _ _ _ _ h; exact (no_l h).elim
    | succ fu_47 ih_47 =>
      intro x4_47 x6_47 M_47 H locs ls hP hD hS hl h
      rw [f_X2_simulate_47] at h
      refine lv_iload hx hb dX2_simulate_47 (lv_at hl 3 rfl) ?_
      refine lv_iload_n hx hb dX2_simulate_49 rfl (lv_at hl 1 rfl) ?_
      refine lv_icmp_ge (tgt := 185) hx hb dX2_simulate_50 (by decide) (fun c_1 => ?_) (fun c_1 => ?_)
      · have h := it_l c_1 h
        refine lv_aload_n hx hb dX2_simulate_185 rfl (lv_at hl 0 rfl) ?_
        refine va_get (D := D) (ci := 2) (v := .ref (b 4)) (C := RX2) (T := TX2) (N := 15) hx hb hts w_1 hown hK hP 0 rfl rfl 8 (by decide) w_0 (fun _ h9 => h9) rfl dX2_simulate_186 ?_
        refine lv_bipush (v := 55) hx hb dX2_simulate_189 (by decide) ?_
        refine va_iald hx hb hK hP 4 0 rfl rfl (inb_vp (by decide)) dX2_simulate_191 ?_
        refine W.eq (g2 := F0 m 192 ls [.int ((m_tri M_47) 55)]) rfl ?_
        refine lv_aload_n hx hb dX2_simulate_192 rfl (lv_at hl 0 rfl) ?_
        refine va_get (D := D) (ci := 2) (v := .ref (b 3)) (C := RX2) (T := TX2) (N := 15) hx hb hts w_1 hown hK hP 0 rfl rfl 7 (by decide) w_2 (fun _ h9 => h9) rfl dX2_simulate_193 ?_
        refine lv_bipush (v := 55) hx hb dX2_simulate_196 (by decide) ?_
        refine va_iald hx hb hK hP 3 0 rfl rfl (inb_vp (by decide)) dX2_simulate_198 ?_
        refine W.eq (g2 := F0 m 199 ls [.int ((m_now M_47) 55), .int ((m_tri M_47) 55)]) rfl ?_
        refine lv_isub hx hb dX2_simulate_199 ?_
        cases h
        exact Ck_iret hx hb hr hP hD hS dX2_simulate_200 hlocks
      · have h := it_r c_1 h
        refine lv_lload hx hb dX2_simulate_53 (lv_at hl 2 rfl) ?_
        refine lv_ldc2 (v := 6364136223846793005) hx hb hown w_3 dX2_simulate_55 ?_
        refine lv_lmul hx hb dX2_simulate_58 ?_
        refine lv_ldc2 (v := 1442695040888963407) hx hb hown w_4 dX2_simulate_59 ?_
        refine lv_ladd hx hb dX2_simulate_62 ?_
        refine lv_topl (fun v_2 ev_2 => ?_)
        have h := nm_l h ev_2
        refine lv_lstore (lv' := [(4, .long v_2), (0, .ref (b 0)), (3, .int p2), (6, .int x6_47)]) hx hb dX2_simulate_63 hl (by decide) rfl (fun ls hl => ?_)
        refine lv_lload hx hb dX2_simulate_65 (lv_at hl 0 rfl) ?_
        refine lv_bipush (v := 33) hx hb dX2_simulate_67 (by decide) ?_
        refine lv_lushr (v := ((v_2.toUInt64 >>> ((33 : Int32).toInt64.toUInt64 &&& Int64.toUInt64 63)).toInt64)) hx hb dX2_simulate_69 rfl ?_
        refine lv_l2i hx hb dX2_simulate_70 rfl ?_
        refine lv_topi (fun v_3 ev_3 => ?_)
        have h := nm_l h ev_3
        refine lv_istore (lv' := [(7, .int v_3), (4, .long v_2), (0, .ref (b 0)), (3, .int p2), (6, .int x6_47)]) hx hb dX2_simulate_71 hl (by decide) rfl (fun ls hl => ?_)
        refine lv_iload hx hb dX2_simulate_73 (lv_at hl 0 rfl) ?_
        refine lv_iconst (v := 4) hx hb dX2_simulate_75 (by decide) ?_
        refine lv_idiv hx hb dX2_simulate_76 (by decide) ?_
        refine lv_aload_n hx hb dX2_simulate_77 rfl (lv_at hl 2 rfl) ?_
        refine va_get (D := D) (ci := 2) (v := .int (m_n M_47)) (C := RX2) (T := TX2) (N := 15) hx hb hts w_1 hown hK hP 0 rfl rfl 6 (by decide) w_5 (fun _ h9 => h9) rfl dX2_simulate_78 ?_
        have g_4 := nz_l (gb_l h)
        have h := gb_r h
        refine lv_irem hx hb dX2_simulate_81 g_4 ?_
        refine lv_topi (fun v_5 ev_5 => ?_)
        have h := nm_l h ev_5
        refine lv_istore (lv' := [(8, .int v_5), (7, .int v_3), (4, .long v_2), (0, .ref (b 0)), (3, .int p2), (6, .int x6_47)]) hx hb dX2_simulate_82 hl (by decide) rfl (fun ls hl => ?_)
        refine lv_iload hx hb dX2_simulate_84 (lv_at hl 1 rfl) ?_
        refine lv_iconst (v := 4) hx hb dX2_simulate_86 (by decide) ?_
        refine lv_irem hx hb dX2_simulate_87 (by decide) ?_
        refine lv_if_ne (tgt := 113) hx hb dX2_simulate_88 (by decide) (fun c_6 => ?_) (fun c_6 => ?_)
        · have h := it_r c_6 h
          refine lv_iload hx hb dX2_simulate_113 (lv_at hl 1 rfl) ?_
          refine lv_iconst (v := 4) hx hb dX2_simulate_115 (by decide) ?_
          refine lv_irem hx hb dX2_simulate_116 (by decide) ?_
          refine lv_iconst (v := 1) hx hb dX2_simulate_117 (by decide) ?_
          refine lv_icmp_ne (tgt := 140) hx hb dX2_simulate_118 (by decide) (fun c_7 => ?_) (fun c_7 => ?_)
          · have h := it_r c_7 h
            refine lv_iload hx hb dX2_simulate_140 (lv_at hl 1 rfl) ?_
            refine lv_iconst (v := 4) hx hb dX2_simulate_142 (by decide) ?_
            refine lv_irem hx hb dX2_simulate_143 (by decide) ?_
            refine lv_iconst (v := 2) hx hb dX2_simulate_144 (by decide) ?_
            refine lv_icmp_ne (tgt := 171) hx hb dX2_simulate_145 (by decide) (fun c_8 => ?_) (fun c_8 => ?_)
            · have h := it_r c_8 h
              refine lv_aload_n hx hb dX2_simulate_171 rfl (lv_at hl 3 rfl) ?_
              refine lv_aload_n hx hb dX2_simulate_172 rfl (lv_at hl 3 rfl) ?_
              refine va_get (D := D) (ci := 2) (v := .ref (b 4)) (C := RX2) (T := TX2) (N := 15) hx hb hts w_1 hown hK hP 0 rfl rfl 8 (by decide) w_0 (fun _ h9 => h9) rfl dX2_simulate_173 ?_
              obtain ⟨⟨q_9, q_10, q_11⟩, hv_12, h⟩ := bd_l h
              obtain ⟨q_13, eq_13⟩ : ∃ y : MdV, y = mu_sal (mu_flo (mu_tri M_47 q_9) q_10) q_11 := ⟨_, rfl⟩
              have h := nm_l h eq_13
              refine Ck_V (As := [.ref (b 4)]) (rest := []) (wc := [mdO b M_47] ++ [(b 4, .inl (k 0, 64, .inl (m_tri M_47)))] ++ [(b 8, .inl (k 0, 6, .inl (m_flo M_47)))] ++ [(b 9, .inl (k 0, 6, .inl (m_sal M_47)))]) (wc' := [mdO b M_47] ++ [(b 4, .inl (k 0, 64, .inl q_9))] ++ [(b 8, .inl (k 0, 6, .inl q_10))] ++ [(b 9, .inl (k 0, 6, .inl q_11))]) (w0' := mdW k b q_13) ⟨hx, hb, hml, hown, hts⟩ (c_X2_tickOn l D k b (b 4) M_47 (m_tri M_47) (m_flo M_47) (m_sal M_47) q_9 q_10 q_11 hv_12) (cwV 1 hts gX2_simulate_X2_tickOn rfl rfl rfl (by decide +kernel) ⟨Nat.le_of_ble_eq_true rfl, Nat.le_of_ble_eq_true rfl⟩) hK hP hD hS hA (q0 := 0) (ci := 2) rfl rfl [0, 4, 8, 9] rfl (by decide) rfl (by rw [eq_13]; simp only [va_sets, List.cons_append, List.nil_append, md_set_0, md_set_tri, md_set_flo, md_set_sal]) rfl hl.1 rfl (Nat.le_of_ble_eq_true rfl) dX2_simulate_176 ⟨Nat.le_of_ble_eq_true rfl, Nat.le_of_ble_eq_true rfl⟩ (fun H locs hP hD hS => ?_)
              refine W.eq (g2 := F0 m 179 ls []) rfl ?_
              refine lv_iinc (v := (x6_47 + 1)) (lv' := [(6, .int (x6_47 + 1)), (8, .int v_5), (7, .int v_3), (4, .long v_2), (0, .ref (b 0)), (3, .int p2)]) hx hb dX2_simulate_179 hl (k := 5) rfl rfl (by decide) rfl (fun ls hl => ?_)
              refine lv_goto (tgt := 47) hx hb dX2_simulate_182 (by decide) ?_
              exact ih_47 v_2 (x6_47 + 1) q_13 _ _ _ hP hD hS (lv_sub hl [4, 5, 3, 0] rfl) h
            · have h := it_l c_8 h
              refine lv_aload_n hx hb dX2_simulate_148 rfl (lv_at hl 3 rfl) ?_
              refine va_get (D := D) (ci := 2) (v := .ref (b 4)) (C := RX2) (T := TX2) (N := 15) hx hb hts w_1 hown hK hP 0 rfl rfl 8 (by decide) w_0 (fun _ h9 => h9) rfl dX2_simulate_149 ?_
              refine lv_iload hx hb dX2_simulate_152 (lv_at hl 0 rfl) ?_
              obtain ⟨v_14, hv_15, h⟩ := bd_l h
              refine Ck_S (As := [.ref (b 4), .int v_5]) (rest := []) (wc := [(b 4, .inl (k 0, 64, .inl (m_tri M_47)))]) (wc' := [(b 4, .inl (k 0, 64, .inl (m_tri M_47)))]) (w0' := mdW k b M_47) ⟨hx, hb, hml, hown, hts⟩ (c_X2_works l D k (b 4) (m_tri M_47) v_5 v_14 hv_15) (va_cwS 2 hts gX2_simulate_X2_works rfl rfl rfl (by decide +kernel) ⟨Nat.le_of_ble_eq_true rfl, Nat.le_of_ble_eq_true rfl⟩) hK hP hD hS hA [4] rfl (by decide) rfl rfl rfl hl.1 rfl (Nat.le_of_ble_eq_true rfl) dX2_simulate_154 ⟨Nat.le_of_ble_eq_true rfl, Nat.le_of_ble_eq_true rfl⟩ (fun H locs hP hD hS => ?_)
              refine W.eq (g2 := F0 m 157 ls [.int v_14]) rfl ?_
              refine lv_if_eq (tgt := 171) hx hb dX2_simulate_157 (by decide) (fun c_16 => ?_) (fun c_16 => ?_)
              · have h := it_l c_16 h
                refine lv_aload_n hx hb dX2_simulate_171 rfl (lv_at hl 3 rfl) ?_
                refine lv_aload_n hx hb dX2_simulate_172 rfl (lv_at hl 3 rfl) ?_
                refine va_get (D := D) (ci := 2) (v := .ref (b 4)) (C := RX2) (T := TX2) (N := 15) hx hb hts w_1 hown hK hP 0 rfl rfl 8 (by decide) w_0 (fun _ h9 => h9) rfl dX2_simulate_173 ?_
                obtain ⟨⟨q_17, q_18, q_19⟩, hv_20, h⟩ := bd_l h
                obtain ⟨q_21, eq_21⟩ : ∃ y : MdV, y = mu_sal (mu_flo (mu_tri M_47 q_17) q_18) q_19 := ⟨_, rfl⟩
                have h := nm_l h eq_21
                refine Ck_V (As := [.ref (b 4)]) (rest := []) (wc := [mdO b M_47] ++ [(b 4, .inl (k 0, 64, .inl (m_tri M_47)))] ++ [(b 8, .inl (k 0, 6, .inl (m_flo M_47)))] ++ [(b 9, .inl (k 0, 6, .inl (m_sal M_47)))]) (wc' := [mdO b M_47] ++ [(b 4, .inl (k 0, 64, .inl q_17))] ++ [(b 8, .inl (k 0, 6, .inl q_18))] ++ [(b 9, .inl (k 0, 6, .inl q_19))]) (w0' := mdW k b q_21) ⟨hx, hb, hml, hown, hts⟩ (c_X2_tickOn l D k b (b 4) M_47 (m_tri M_47) (m_flo M_47) (m_sal M_47) q_17 q_18 q_19 hv_20) (cwV 1 hts gX2_simulate_X2_tickOn rfl rfl rfl (by decide +kernel) ⟨Nat.le_of_ble_eq_true rfl, Nat.le_of_ble_eq_true rfl⟩) hK hP hD hS hA (q0 := 0) (ci := 2) rfl rfl [0, 4, 8, 9] rfl (by decide) rfl (by rw [eq_21]; simp only [va_sets, List.cons_append, List.nil_append, md_set_0, md_set_tri, md_set_flo, md_set_sal]) rfl hl.1 rfl (Nat.le_of_ble_eq_true rfl) dX2_simulate_176 ⟨Nat.le_of_ble_eq_true rfl, Nat.le_of_ble_eq_true rfl⟩ (fun H locs hP hD hS => ?_)
                refine W.eq (g2 := F0 m 179 ls []) rfl ?_
                refine lv_iinc (v := (x6_47 + 1)) (lv' := [(6, .int (x6_47 + 1)), (8, .int v_5), (7, .int v_3), (4, .long v_2), (0, .ref (b 0)), (3, .int p2)]) hx hb dX2_simulate_179 hl (k := 5) rfl rfl (by decide) rfl (fun ls hl => ?_)
                refine lv_goto (tgt := 47) hx hb dX2_simulate_182 (by decide) ?_
                exact ih_47 v_2 (x6_47 + 1) q_21 _ _ _ hP hD hS (lv_sub hl [4, 5, 3, 0] rfl) h
              · have h := it_r c_16 h
                refine lv_aload_n hx hb dX2_simulate_160 rfl (lv_at hl 3 rfl) ?_
                refine va_get (D := D) (ci := 2) (v := .ref (b 4)) (C := RX2) (T := TX2) (N := 15) hx hb hts w_1 hown hK hP 0 rfl rfl 8 (by decide) w_0 (fun _ h9 => h9) rfl dX2_simulate_161 ?_
                refine lv_bipush (v := 42) hx hb dX2_simulate_164 (by decide) ?_
                refine lv_iload hx hb dX2_simulate_166 (lv_at hl 0 rfl) ?_
                refine lv_iadd hx hb dX2_simulate_168 ?_
                refine lv_iconst (v := 5) hx hb dX2_simulate_169 (by decide) ?_
                have g_22 := inb_vp (gb_l h)
                have h := gb_r h
                refine va_iast hx hb hK hP hD hS 4 0 rfl rfl g_22 dX2_simulate_170 (fun H locs hP hD hS => ?_)
                obtain ⟨q_23, eq_23⟩ : ∃ y : MdV, y = mu_tri M_47 (upd (m_tri M_47) (42 + v_5).toNatClampNeg 5) := ⟨_, rfl⟩
                have hP : va_P D vwCl (mdW k b q_23) H := by rw [eq_23, ← md_set_tri k b M_47 _]; exact hP
                have hD : va_D A (mdW k b q_23) := by rw [eq_23, ← md_set_tri k b M_47 _]; exact hD
                have h := nm_l h eq_23
                refine lv_aload_n hx hb dX2_simulate_171 rfl (lv_at hl 3 rfl) ?_
                refine lv_aload_n hx hb dX2_simulate_172 rfl (lv_at hl 3 rfl) ?_
                refine va_get (D := D) (ci := 2) (v := .ref (b 4)) (C := RX2) (T := TX2) (N := 15) hx hb hts w_1 hown hK hP 0 rfl rfl 8 (by decide) w_0 (fun _ h9 => h9) rfl dX2_simulate_173 ?_
                obtain ⟨⟨q_24, q_25, q_26⟩, hv_27, h⟩ := bd_l h
                obtain ⟨q_28, eq_28⟩ : ∃ y : MdV, y = mu_sal (mu_flo (mu_tri q_23 q_24) q_25) q_26 := ⟨_, rfl⟩
                have h := nm_l h eq_28
                refine Ck_V (As := [.ref (b 4)]) (rest := []) (wc := [mdO b q_23] ++ [(b 4, .inl (k 0, 64, .inl (m_tri q_23)))] ++ [(b 8, .inl (k 0, 6, .inl (m_flo q_23)))] ++ [(b 9, .inl (k 0, 6, .inl (m_sal q_23)))]) (wc' := [mdO b q_23] ++ [(b 4, .inl (k 0, 64, .inl q_24))] ++ [(b 8, .inl (k 0, 6, .inl q_25))] ++ [(b 9, .inl (k 0, 6, .inl q_26))]) (w0' := mdW k b q_28) ⟨hx, hb, hml, hown, hts⟩ (c_X2_tickOn l D k b (b 4) q_23 (m_tri q_23) (m_flo q_23) (m_sal q_23) q_24 q_25 q_26 hv_27) (cwV 1 hts gX2_simulate_X2_tickOn rfl rfl rfl (by decide +kernel) ⟨Nat.le_of_ble_eq_true rfl, Nat.le_of_ble_eq_true rfl⟩) hK hP hD hS hA (q0 := 0) (ci := 2) rfl rfl [0, 4, 8, 9] rfl (by decide) rfl (by rw [eq_28]; simp only [va_sets, List.cons_append, List.nil_append, md_set_0, md_set_tri, md_set_flo, md_set_sal]) rfl hl.1 rfl (Nat.le_of_ble_eq_true rfl) dX2_simulate_176 ⟨Nat.le_of_ble_eq_true rfl, Nat.le_of_ble_eq_true rfl⟩ (fun H locs hP hD hS => ?_)
                refine W.eq (g2 := F0 m 179 ls []) rfl ?_
                refine lv_iinc (v := (x6_47 + 1)) (lv' := [(6, .int (x6_47 + 1)), (8, .int v_5), (7, .int v_3), (4, .long v_2), (0, .ref (b 0)), (3, .int p2)]) hx hb dX2_simulate_179 hl (k := 5) rfl rfl (by decide) rfl (fun ls hl => ?_)
                refine lv_goto (tgt := 47) hx hb dX2_simulate_182 (by decide) ?_
                exact ih_47 v_2 (x6_47 + 1) q_28 _ _ _ hP hD hS (lv_sub hl [4, 5, 3, 0] rfl) h
          · have h := it_l c_7 h
            refine lv_aload_n hx hb dX2_simulate_121 rfl (lv_at hl 3 rfl) ?_
            refine va_get (D := D) (ci := 2) (v := .ref (b 4)) (C := RX2) (T := TX2) (N := 15) hx hb hts w_1 hown hK hP 0 rfl rfl 8 (by decide) w_0 (fun _ h9 => h9) rfl dX2_simulate_122 ?_
            refine lv_bipush (v := 48) hx hb dX2_simulate_125 (by decide) ?_
            refine lv_iload hx hb dX2_simulate_127 (lv_at hl 1 rfl) ?_
            refine lv_bipush (v := 64) hx hb dX2_simulate_129 (by decide) ?_
            refine lv_idiv hx hb dX2_simulate_131 (by decide) ?_
            refine lv_sipush (v := 400) hx hb dX2_simulate_132 (by decide) ?_
            refine lv_irem hx hb dX2_simulate_135 (by decide) ?_
            refine va_iast hx hb hK hP hD hS 4 0 rfl rfl (inb_vp (by decide)) dX2_simulate_136 (fun H locs hP hD hS => ?_)
            obtain ⟨q_29, eq_29⟩ : ∃ y : MdV, y = mu_tri M_47 (upd (m_tri M_47) 48 ((v_3 / 64) - (v_3 / 64) / 400 * 400)) := ⟨_, rfl⟩
            have hP : va_P D vwCl (mdW k b q_29) H := by rw [eq_29, ← md_set_tri k b M_47 _]; exact hP
            have hD : va_D A (mdW k b q_29) := by rw [eq_29, ← md_set_tri k b M_47 _]; exact hD
            have h := nm_l h eq_29
            refine lv_goto (tgt := 171) hx hb dX2_simulate_137 (by decide) ?_
            refine lv_aload_n hx hb dX2_simulate_171 rfl (lv_at hl 3 rfl) ?_
            refine lv_aload_n hx hb dX2_simulate_172 rfl (lv_at hl 3 rfl) ?_
            refine va_get (D := D) (ci := 2) (v := .ref (b 4)) (C := RX2) (T := TX2) (N := 15) hx hb hts w_1 hown hK hP 0 rfl rfl 8 (by decide) w_0 (fun _ h9 => h9) rfl dX2_simulate_173 ?_
            obtain ⟨⟨q_30, q_31, q_32⟩, hv_33, h⟩ := bd_l h
            obtain ⟨q_34, eq_34⟩ : ∃ y : MdV, y = mu_sal (mu_flo (mu_tri q_29 q_30) q_31) q_32 := ⟨_, rfl⟩
            have h := nm_l h eq_34
            refine Ck_V (As := [.ref (b 4)]) (rest := []) (wc := [mdO b q_29] ++ [(b 4, .inl (k 0, 64, .inl (m_tri q_29)))] ++ [(b 8, .inl (k 0, 6, .inl (m_flo q_29)))] ++ [(b 9, .inl (k 0, 6, .inl (m_sal q_29)))]) (wc' := [mdO b q_29] ++ [(b 4, .inl (k 0, 64, .inl q_30))] ++ [(b 8, .inl (k 0, 6, .inl q_31))] ++ [(b 9, .inl (k 0, 6, .inl q_32))]) (w0' := mdW k b q_34) ⟨hx, hb, hml, hown, hts⟩ (c_X2_tickOn l D k b (b 4) q_29 (m_tri q_29) (m_flo q_29) (m_sal q_29) q_30 q_31 q_32 hv_33) (cwV 1 hts gX2_simulate_X2_tickOn rfl rfl rfl (by decide +kernel) ⟨Nat.le_of_ble_eq_true rfl, Nat.le_of_ble_eq_true rfl⟩) hK hP hD hS hA (q0 := 0) (ci := 2) rfl rfl [0, 4, 8, 9] rfl (by decide) rfl (by rw [eq_34]; simp only [va_sets, List.cons_append, List.nil_append, md_set_0, md_set_tri, md_set_flo, md_set_sal]) rfl hl.1 rfl (Nat.le_of_ble_eq_true rfl) dX2_simulate_176 ⟨Nat.le_of_ble_eq_true rfl, Nat.le_of_ble_eq_true rfl⟩ (fun H locs hP hD hS => ?_)
            refine W.eq (g2 := F0 m 179 ls []) rfl ?_
            refine lv_iinc (v := (x6_47 + 1)) (lv' := [(6, .int (x6_47 + 1)), (8, .int v_5), (7, .int v_3), (4, .long v_2), (0, .ref (b 0)), (3, .int p2)]) hx hb dX2_simulate_179 hl (k := 5) rfl rfl (by decide) rfl (fun ls hl => ?_)
            refine lv_goto (tgt := 47) hx hb dX2_simulate_182 (by decide) ?_
            exact ih_47 v_2 (x6_47 + 1) q_34 _ _ _ hP hD hS (lv_sub hl [4, 5, 3, 0] rfl) h
        · have h := it_l c_6 h
          refine lv_aload_n hx hb dX2_simulate_91 rfl (lv_at hl 3 rfl) ?_
          refine va_get (D := D) (ci := 2) (v := .ref (b 4)) (C := RX2) (T := TX2) (N := 15) hx hb hts w_1 hown hK hP 0 rfl rfl 8 (by decide) w_0 (fun _ h9 => h9) rfl dX2_simulate_92 ?_
          refine lv_bipush (v := 18) hx hb dX2_simulate_95 (by decide) ?_
          refine lv_iload hx hb dX2_simulate_97 (lv_at hl 0 rfl) ?_
          refine lv_iadd hx hb dX2_simulate_99 ?_
          refine lv_iload hx hb dX2_simulate_100 (lv_at hl 1 rfl) ?_
          refine lv_bipush (v := 64) hx hb dX2_simulate_102 (by decide) ?_
          refine lv_idiv hx hb dX2_simulate_104 (by decide) ?_
          refine lv_sipush (v := 200) hx hb dX2_simulate_105 (by decide) ?_
          refine lv_irem hx hb dX2_simulate_108 (by decide) ?_
          have g_35 := inb_vp (gb_l h)
          have h := gb_r h
          refine va_iast hx hb hK hP hD hS 4 0 rfl rfl g_35 dX2_simulate_109 (fun H locs hP hD hS => ?_)
          obtain ⟨q_36, eq_36⟩ : ∃ y : MdV, y = mu_tri M_47 (upd (m_tri M_47) (18 + v_5).toNatClampNeg ((v_3 / 64) - (v_3 / 64) / 200 * 200)) := ⟨_, rfl⟩
          have hP : va_P D vwCl (mdW k b q_36) H := by rw [eq_36, ← md_set_tri k b M_47 _]; exact hP
          have hD : va_D A (mdW k b q_36) := by rw [eq_36, ← md_set_tri k b M_47 _]; exact hD
          have h := nm_l h eq_36
          refine lv_goto (tgt := 171) hx hb dX2_simulate_110 (by decide) ?_
          refine lv_aload_n hx hb dX2_simulate_171 rfl (lv_at hl 3 rfl) ?_
          refine lv_aload_n hx hb dX2_simulate_172 rfl (lv_at hl 3 rfl) ?_
          refine va_get (D := D) (ci := 2) (v := .ref (b 4)) (C := RX2) (T := TX2) (N := 15) hx hb hts w_1 hown hK hP 0 rfl rfl 8 (by decide) w_0 (fun _ h9 => h9) rfl dX2_simulate_173 ?_
          obtain ⟨⟨q_37, q_38, q_39⟩, hv_40, h⟩ := bd_l h
          obtain ⟨q_41, eq_41⟩ : ∃ y : MdV, y = mu_sal (mu_flo (mu_tri q_36 q_37) q_38) q_39 := ⟨_, rfl⟩
          have h := nm_l h eq_41
          refine Ck_V (As := [.ref (b 4)]) (rest := []) (wc := [mdO b q_36] ++ [(b 4, .inl (k 0, 64, .inl (m_tri q_36)))] ++ [(b 8, .inl (k 0, 6, .inl (m_flo q_36)))] ++ [(b 9, .inl (k 0, 6, .inl (m_sal q_36)))]) (wc' := [mdO b q_36] ++ [(b 4, .inl (k 0, 64, .inl q_37))] ++ [(b 8, .inl (k 0, 6, .inl q_38))] ++ [(b 9, .inl (k 0, 6, .inl q_39))]) (w0' := mdW k b q_41) ⟨hx, hb, hml, hown, hts⟩ (c_X2_tickOn l D k b (b 4) q_36 (m_tri q_36) (m_flo q_36) (m_sal q_36) q_37 q_38 q_39 hv_40) (cwV 1 hts gX2_simulate_X2_tickOn rfl rfl rfl (by decide +kernel) ⟨Nat.le_of_ble_eq_true rfl, Nat.le_of_ble_eq_true rfl⟩) hK hP hD hS hA (q0 := 0) (ci := 2) rfl rfl [0, 4, 8, 9] rfl (by decide) rfl (by rw [eq_41]; simp only [va_sets, List.cons_append, List.nil_append, md_set_0, md_set_tri, md_set_flo, md_set_sal]) rfl hl.1 rfl (Nat.le_of_ble_eq_true rfl) dX2_simulate_176 ⟨Nat.le_of_ble_eq_true rfl, Nat.le_of_ble_eq_true rfl⟩ (fun H locs hP hD hS => ?_)
          refine W.eq (g2 := F0 m 179 ls []) rfl ?_
          refine lv_iinc (v := (x6_47 + 1)) (lv' := [(6, .int (x6_47 + 1)), (8, .int v_5), (7, .int v_3), (4, .long v_2), (0, .ref (b 0)), (3, .int p2)]) hx hb dX2_simulate_179 hl (k := 5) rfl rfl (by decide) rfl (fun ls hl => ?_)
          refine lv_goto (tgt := 47) hx hb dX2_simulate_182 (by decide) ?_
          exact ih_47 v_2 (x6_47 + 1) q_41 _ _ _ hP hD hS (lv_sub hl [4, 5, 3, 0] rfl) h
  have hC_18 : ∀ (t0_18 : Int32) (H : Heap) (locs : List Loc) (ls : Array Slot), va_P D vwCl (mdW k b M) H → va_D A (mdW k b M) → va_S A s.heap H locs → lv_has ls 9 [(0, .ref (b 0)), (1, .long p1), (3, .int p2)] → f_X2_simulate_18 M p1 p2 t0_18 = some (o0, o1) → W p l e ({ frames := 4, cells := 0, slots := 0, locals := 94 } : Room) s m args below meth c H locs 0 0 (MQ below (Qk D A (some (.int o0)) (mdW k b o1)) args s 0 0 A) (F0 m 18 ls [.int t0_18, .ref (b 0)]) := by
    intro t0_18 H locs ls hP hD hS hl h
    unfold f_X2_simulate_18 at h
    obtain ⟨⟨v_42, q_43⟩, hv_44, h⟩ := bd_l h
    refine Ck_V (As := [.int t0_18]) (rest := []) (wc := mdW k b M) (wc' := mdW k b q_43) (w0' := mdW k b q_43) ⟨hx, hb, hml, hown, hts⟩ (c_X2_refused l D k b M t0_18 v_42 q_43 hv_44) (cwV 1 hts gX2_simulate_X2_refused rfl rfl rfl (by decide +kernel) ⟨Nat.le_of_ble_eq_true rfl, Nat.le_of_ble_eq_true rfl⟩) hK hP hD hS hA (q0 := 0) (ci := 2) rfl rfl [0, 1, 2, 3, 4, 5, 6, 7, 8, 9] rfl (by decide) rfl rfl rfl hl.1 rfl (Nat.le_of_ble_eq_true rfl) dX2_simulate_18 ⟨Nat.le_of_ble_eq_true rfl, Nat.le_of_ble_eq_true rfl⟩ (fun H locs hP hD hS => ?_)
    refine W.eq (g2 := F0 m 21 ls [.int v_42]) rfl ?_
    refine lv_if_eq (tgt := 26) hx hb dX2_simulate_21 (by decide) (fun c_45 => ?_) (fun c_45 => ?_)
    · have h := it_l c_45 h
      refine lv_aload_n hx hb dX2_simulate_26 rfl (lv_at hl 0 rfl) ?_
      refine va_get (D := D) (ci := 2) (v := .ref (b 3)) (C := RX2) (T := TX2) (N := 15) hx hb hts w_1 hown hK hP 0 rfl rfl 7 (by decide) w_2 (fun _ h9 => h9) rfl dX2_simulate_27 ?_
      refine lv_iconst (v := 0) hx hb dX2_simulate_30 (by decide) ?_
      refine lv_aload_n hx hb dX2_simulate_31 rfl (lv_at hl 0 rfl) ?_
      refine va_get (D := D) (ci := 2) (v := .ref (b 4)) (C := RX2) (T := TX2) (N := 15) hx hb hts w_1 hown hK hP 0 rfl rfl 8 (by decide) w_0 (fun _ h9 => h9) rfl dX2_simulate_32 ?_
      refine lv_iconst (v := 0) hx hb dX2_simulate_35 (by decide) ?_
      refine lv_bipush (v := 64) hx hb dX2_simulate_36 (by decide) ?_
      obtain ⟨q_46, hv_47, h⟩ := bd_l h
      obtain ⟨q_48, eq_48⟩ : ∃ y : MdV, y = mu_tri q_43 q_46 := ⟨_, rfl⟩
      have h := nm_l h eq_48
      refine Ck_S (As := [.ref (b 3), .int 0, .ref (b 4), .int 0, .int 64]) (rest := []) (wc := [(b 3, .inl (k 0, 64, .inl (m_now q_43)))] ++ [(b 4, .inl (k 0, 64, .inl (m_tri q_43)))]) (wc' := [(b 3, .inl (k 0, 64, .inl (m_now q_43)))] ++ [(b 4, .inl (k 0, 64, .inl q_46))]) (w0' := mdW k b q_48) ⟨hx, hb, hml, hown, hts⟩ (c_X2_copy l D k (b 3) (b 4) 64 64 (m_now q_43) (m_tri q_43) 0 0 64 q_46 hv_47) (va_cwS 5 hts gX2_simulate_X2_copy rfl rfl rfl (by decide +kernel) ⟨Nat.le_of_ble_eq_true rfl, Nat.le_of_ble_eq_true rfl⟩) hK hP hD hS hA [3, 4] rfl (by decide) rfl (by rw [eq_48]; simp only [va_sets, List.cons_append, List.nil_append, md_set_0, md_self_now, md_set_tri]) rfl hl.1 rfl (Nat.le_of_ble_eq_true rfl) dX2_simulate_38 ⟨Nat.le_of_ble_eq_true rfl, Nat.le_of_ble_eq_true rfl⟩ (fun H locs hP hD hS => ?_)
      refine W.eq (g2 := F0 m 41 ls []) rfl ?_
      refine lv_lload_n hx hb dX2_simulate_41 rfl (lv_at hl 1 rfl) ?_
      refine lv_lstore (lv' := [(4, .long p1), (0, .ref (b 0)), (1, .long p1), (3, .int p2)]) hx hb dX2_simulate_42 hl (by decide) rfl (fun ls hl => ?_)
      refine lv_iconst (v := 0) hx hb dX2_simulate_44 (by decide) ?_
      refine lv_istore (lv' := [(6, .int 0), (4, .long p1), (0, .ref (b 0)), (1, .long p1), (3, .int p2)]) hx hb dX2_simulate_45 hl (by decide) rfl (fun ls hl => ?_)
      exact hC_47 2000 p1 0 q_48 _ _ _ hP hD hS (lv_sub hl [2, 4, 1, 0] rfl) h
    · have h := it_r c_45 h
      refine lv_iconst (v := 0) hx hb dX2_simulate_24 (by decide) ?_
      cases h
      exact Ck_iret hx hb hr hP hD hS dX2_simulate_25 hlocks
  refine lv_aload_n hx hb dX2_simulate_0 rfl (lv_at hl 0 rfl) ?_
  refine lv_iload_n hx hb dX2_simulate_1 rfl (lv_at hl 2 rfl) ?_
  refine lv_i2l hx hb dX2_simulate_2 rfl ?_
  refine lv_lconst (v := 1) hx hb dX2_simulate_3 (by decide) ?_
  refine lv_ldc2 (v := 99) hx hb hown w_6 dX2_simulate_4 ?_
  obtain ⟨v_49, hv_50, h⟩ := bd_l h
  refine Ck_S (As := [.long (p2.toInt64), .long 1, .long 99]) (rest := [.ref (b 0)]) (wc := ([] : va_W)) (wc' := ([] : va_W)) (w0' := mdW k b M) ⟨hx, hb, hml, hown, hts⟩ (c_X2_in l D k  (p2.toInt64) 1 99 v_49 hv_50) (va_cwS 3 hts gX2_simulate_X2_in rfl rfl rfl (by decide +kernel) ⟨Nat.le_of_ble_eq_true rfl, Nat.le_of_ble_eq_true rfl⟩) hK hP hD hS hA [] rfl (by decide) rfl rfl rfl hl.1 rfl (Nat.le_of_ble_eq_true rfl) dX2_simulate_7 ⟨Nat.le_of_ble_eq_true rfl, Nat.le_of_ble_eq_true rfl⟩ (fun H locs hP hD hS => ?_)
  refine W.eq (g2 := F0 m 10 ls [.int v_49, .ref (b 0)]) rfl ?_
  refine lv_if_eq (tgt := 17) hx hb dX2_simulate_10 (by decide) (fun c_51 => ?_) (fun c_51 => ?_)
  · have h := it_l c_51 h
    refine lv_iconst (v := 1) hx hb dX2_simulate_17 (by decide) ?_
    exact hC_18 1 _ _ _ hP hD hS (lv_sub hl [0, 1, 2] rfl) h
  · have h := it_r c_51 h
    refine lv_iconst (v := 0) hx hb dX2_simulate_13 (by decide) ?_
    refine lv_goto (tgt := 18) hx hb dX2_simulate_14 (by decide) ?_
    exact hC_18 0 _ _ _ hP hD hS (lv_sub hl [0, 1, 2] rfl) h
def f_X2_save_16 (M : MdV) (p1 : Int32) (t0_16 : Int32) : Option (Int32 × MdV) := bd (f_X2_refused M t0_16) fun ⟨v_1, q_2⟩ => if v_1 = 0 then (gb (inb p1 2) <| nm (mu_isk q_2 (upd (m_isk q_2) p1.toNatClampNeg (vp_nar .boolean 1))) fun q_6 => bd (f_X2_copy 64 128 (m_now q_6) (m_kep q_6) 0 (64 * p1) 64) fun q_7 => nm (mu_kep q_6 q_7) fun q_9 => some (((m_now q_9) 53), q_9)) else (some (0, q_2))
def f_X2_save (M : MdV) (p1 : Int32) : Option (Int32 × MdV) := bd (f_X2_in (p1.toInt64) 0 1) fun v_10 => if v_10 = 0 then (f_X2_save_16 M p1 1) else (f_X2_save_16 M p1 0)
set_option maxRecDepth 100000 in
set_option maxHeartbeats 4000000 in
theorem c_X2_save (l : Launch) (D : va_G) (k : Nat → ClassId) (b : Nat → Nat) (M : MdV) (p1 : Int32) (o0 : Int32) (o1 : MdV) (h : f_X2_save M p1 = some (o0, o1)) : Ck l D (tyK k) yX2_save wsX2_save ({ frames := 1, cells := 0, slots := 0, locals := 25 } : Room) [.ref (b 0), .int p1] (mdW k b M) (some (.int o0)) (mdW k b o1) := by
  refine Ck_of (cc := cX2_save) (maxL := 2) (ret := (some .int)) (by decide) rfl (Nat.le_of_ble_eq_true rfl) ?_
  intro p e s m args below meth c A ls hx hb hr hml hts hown hlocks hK hA hP hD hS hl
  have hl : lv_has ls 2 [(0, .ref (b 0)), (1, .int p1)] := hl
  have hP : va_P D vwCl (mdW k b M) s.heap := hP
  have w_0 := hts (.fieldLink RX2 28 "EffectTrainModel" "isKept" "[Z") (by decide +kernel)
  have w_1 : ∀ w ∈ wsX20, w ∈ wsX2_save := by decide +kernel
  have w_2 := hts (.fieldLink RX2 16 "EffectTrainModel" "now" "[I") (by decide +kernel)
  have w_3 := hts (.fieldLink RX2 25 "EffectTrainModel" "kept" "[I") (by decide +kernel)
  unfold f_X2_save at h
  have hC_16 : ∀ (t0_16 : Int32) (H : Heap) (locs : List Loc) (ls : Array Slot), va_P D vwCl (mdW k b M) H → va_D A (mdW k b M) → va_S A s.heap H locs → lv_has ls 2 [(0, .ref (b 0)), (1, .int p1)] → f_X2_save_16 M p1 t0_16 = some (o0, o1) → W p l e ({ frames := 1, cells := 0, slots := 0, locals := 25 } : Room) s m args below meth c H locs 0 0 (MQ below (Qk D A (some (.int o0)) (mdW k b o1)) args s 0 0 A) (F0 m 16 ls [.int t0_16, .ref (b 0)]) := by
    intro t0_16 H locs ls hP hD hS hl h
    unfold f_X2_save_16 at h
    obtain ⟨⟨v_1, q_2⟩, hv_3, h⟩ := bd_l h
    refine Ck_V (As := [.int t0_16]) (rest := []) (wc := mdW k b M) (wc' := mdW k b q_2) (w0' := mdW k b q_2) ⟨hx, hb, hml, hown, hts⟩ (c_X2_refused l D k b M t0_16 v_1 q_2 hv_3) (cwV 1 hts gX2_save_X2_refused rfl rfl rfl (by decide +kernel) ⟨Nat.le_of_ble_eq_true rfl, Nat.le_of_ble_eq_true rfl⟩) hK hP hD hS hA (q0 := 0) (ci := 2) rfl rfl [0, 1, 2, 3, 4, 5, 6, 7, 8, 9] rfl (by decide) rfl rfl rfl hl.1 rfl (Nat.le_of_ble_eq_true rfl) dX2_save_16 ⟨Nat.le_of_ble_eq_true rfl, Nat.le_of_ble_eq_true rfl⟩ (fun H locs hP hD hS => ?_)
    refine W.eq (g2 := F0 m 19 ls [.int v_1]) rfl ?_
    refine lv_if_eq (tgt := 24) hx hb dX2_save_19 (by decide) (fun c_4 => ?_) (fun c_4 => ?_)
    · have h := it_l c_4 h
      refine lv_aload_n hx hb dX2_save_24 rfl (lv_at hl 0 rfl) ?_
      refine va_get (D := D) (ci := 2) (v := .ref (b 7)) (C := RX2) (T := TX2) (N := 15) hx hb hts w_1 hown hK hP 0 rfl rfl 12 (by decide) w_0 (fun _ h9 => h9) rfl dX2_save_25 ?_
      refine lv_iload_n hx hb dX2_save_28 rfl (lv_at hl 1 rfl) ?_
      refine lv_iconst (v := 1) hx hb dX2_save_29 (by decide) ?_
      have g_5 := inb_vp (gb_l h)
      have h := gb_r h
      refine va_zast hx hb hK hP hD hS 7 2 rfl rfl g_5 dX2_save_30 (fun H locs hP hD hS => ?_)
      obtain ⟨q_6, eq_6⟩ : ∃ y : MdV, y = mu_isk q_2 (upd (m_isk q_2) p1.toNatClampNeg (vp_nar .boolean 1)) := ⟨_, rfl⟩
      have hP : va_P D vwCl (mdW k b q_6) H := by rw [eq_6, ← md_set_isk k b q_2 _]; exact hP
      have hD : va_D A (mdW k b q_6) := by rw [eq_6, ← md_set_isk k b q_2 _]; exact hD
      have h := nm_l h eq_6
      refine lv_aload_n hx hb dX2_save_31 rfl (lv_at hl 0 rfl) ?_
      refine va_get (D := D) (ci := 2) (v := .ref (b 3)) (C := RX2) (T := TX2) (N := 15) hx hb hts w_1 hown hK hP 0 rfl rfl 7 (by decide) w_2 (fun _ h9 => h9) rfl dX2_save_32 ?_
      refine lv_iconst (v := 0) hx hb dX2_save_35 (by decide) ?_
      refine lv_aload_n hx hb dX2_save_36 rfl (lv_at hl 0 rfl) ?_
      refine va_get (D := D) (ci := 2) (v := .ref (b 6)) (C := RX2) (T := TX2) (N := 15) hx hb hts w_1 hown hK hP 0 rfl rfl 11 (by decide) w_3 (fun _ h9 => h9) rfl dX2_save_37 ?_
      refine lv_bipush (v := 64) hx hb dX2_save_40 (by decide) ?_
      refine lv_iload_n hx hb dX2_save_42 rfl (lv_at hl 1 rfl) ?_
      refine lv_imul hx hb dX2_save_43 ?_
      refine lv_bipush (v := 64) hx hb dX2_save_44 (by decide) ?_
      obtain ⟨q_7, hv_8, h⟩ := bd_l h
      obtain ⟨q_9, eq_9⟩ : ∃ y : MdV, y = mu_kep q_6 q_7 := ⟨_, rfl⟩
      have h := nm_l h eq_9
      refine Ck_S (As := [.ref (b 3), .int 0, .ref (b 6), .int (64 * p1), .int 64]) (rest := []) (wc := [(b 3, .inl (k 0, 64, .inl (m_now q_6)))] ++ [(b 6, .inl (k 0, 128, .inl (m_kep q_6)))]) (wc' := [(b 3, .inl (k 0, 64, .inl (m_now q_6)))] ++ [(b 6, .inl (k 0, 128, .inl q_7))]) (w0' := mdW k b q_9) ⟨hx, hb, hml, hown, hts⟩ (c_X2_copy l D k (b 3) (b 6) 64 128 (m_now q_6) (m_kep q_6) 0 (64 * p1) 64 q_7 hv_8) (va_cwS 5 hts gX2_save_X2_copy rfl rfl rfl (by decide +kernel) ⟨Nat.le_of_ble_eq_true rfl, Nat.le_of_ble_eq_true rfl⟩) hK hP hD hS hA [3, 6] rfl (by decide) rfl (by rw [eq_9]; simp only [va_sets, List.cons_append, List.nil_append, md_set_0, md_self_now, md_set_kep]) rfl hl.1 rfl (Nat.le_of_ble_eq_true rfl) dX2_save_46 ⟨Nat.le_of_ble_eq_true rfl, Nat.le_of_ble_eq_true rfl⟩ (fun H locs hP hD hS => ?_)
      refine W.eq (g2 := F0 m 49 ls []) rfl ?_
      refine lv_aload_n hx hb dX2_save_49 rfl (lv_at hl 0 rfl) ?_
      refine va_get (D := D) (ci := 2) (v := .ref (b 3)) (C := RX2) (T := TX2) (N := 15) hx hb hts w_1 hown hK hP 0 rfl rfl 7 (by decide) w_2 (fun _ h9 => h9) rfl dX2_save_50 ?_
      refine lv_bipush (v := 53) hx hb dX2_save_53 (by decide) ?_
      refine va_iald hx hb hK hP 3 0 rfl rfl (inb_vp (by decide)) dX2_save_55 ?_
      refine W.eq (g2 := F0 m 56 ls [.int ((m_now q_9) 53)]) rfl ?_
      cases h
      exact Ck_iret hx hb hr hP hD hS dX2_save_56 hlocks
    · have h := it_r c_4 h
      refine lv_iconst (v := 0) hx hb dX2_save_22 (by decide) ?_
      cases h
      exact Ck_iret hx hb hr hP hD hS dX2_save_23 hlocks
  refine lv_aload_n hx hb dX2_save_0 rfl (lv_at hl 0 rfl) ?_
  refine lv_iload_n hx hb dX2_save_1 rfl (lv_at hl 1 rfl) ?_
  refine lv_i2l hx hb dX2_save_2 rfl ?_
  refine lv_lconst (v := 0) hx hb dX2_save_3 (by decide) ?_
  refine lv_lconst (v := 1) hx hb dX2_save_4 (by decide) ?_
  obtain ⟨v_10, hv_11, h⟩ := bd_l h
  refine Ck_S (As := [.long (p1.toInt64), .long 0, .long 1]) (rest := [.ref (b 0)]) (wc := ([] : va_W)) (wc' := ([] : va_W)) (w0' := mdW k b M) ⟨hx, hb, hml, hown, hts⟩ (c_X2_in l D k  (p1.toInt64) 0 1 v_10 hv_11) (va_cwS 3 hts gX2_save_X2_in rfl rfl rfl (by decide +kernel) ⟨Nat.le_of_ble_eq_true rfl, Nat.le_of_ble_eq_true rfl⟩) hK hP hD hS hA [] rfl (by decide) rfl rfl rfl hl.1 rfl (Nat.le_of_ble_eq_true rfl) dX2_save_5 ⟨Nat.le_of_ble_eq_true rfl, Nat.le_of_ble_eq_true rfl⟩ (fun H locs hP hD hS => ?_)
  refine W.eq (g2 := F0 m 8 ls [.int v_10, .ref (b 0)]) rfl ?_
  refine lv_if_eq (tgt := 15) hx hb dX2_save_8 (by decide) (fun c_12 => ?_) (fun c_12 => ?_)
  · have h := it_l c_12 h
    refine lv_iconst (v := 1) hx hb dX2_save_15 (by decide) ?_
    exact hC_16 1 _ _ _ hP hD hS (lv_sub hl [0, 1] rfl) h
  · have h := it_r c_12 h
    refine lv_iconst (v := 0) hx hb dX2_save_11 (by decide) ?_
    refine lv_goto (tgt := 16) hx hb dX2_save_12 (by decide) ?_
    exact hC_16 0 _ _ _ hP hD hS (lv_sub hl [0, 1] rfl) h
def f_X2_restore_29 (M : MdV) (p1 : Int32) (t0_29 : Int32) : Option (Int32 × MdV) := bd (f_X2_refused M t0_29) fun ⟨v_1, q_2⟩ => if v_1 = 0 then (bd (f_X2_copy 128 64 (m_kep q_2) (m_now q_2) (64 * p1) 0 64) fun q_5 => nm (mu_now q_2 q_5) fun q_7 => nm (mu_act q_7 0) fun q_8 => some (((m_now q_8) 53), q_8)) else (some (0, q_2))
def f_X2_restore (M : MdV) (p1 : Int32) : Option (Int32 × MdV) := bd (f_X2_in (p1.toInt64) 0 1) fun v_9 => if v_9 = 0 then (f_X2_restore_29 M p1 1) else (gb (inb p1 2) <| if ((m_isk M) p1.toNatClampNeg) = 0 then (f_X2_restore_29 M p1 2) else (f_X2_restore_29 M p1 0))
set_option maxRecDepth 100000 in
set_option maxHeartbeats 4000000 in
theorem c_X2_restore (l : Launch) (D : va_G) (k : Nat → ClassId) (b : Nat → Nat) (M : MdV) (p1 : Int32) (o0 : Int32) (o1 : MdV) (h : f_X2_restore M p1 = some (o0, o1)) : Ck l D (tyK k) yX2_restore wsX2_restore ({ frames := 1, cells := 0, slots := 0, locals := 25 } : Room) [.ref (b 0), .int p1] (mdW k b M) (some (.int o0)) (mdW k b o1) := by
  refine Ck_of (cc := cX2_restore) (maxL := 2) (ret := (some .int)) (by decide) rfl (Nat.le_of_ble_eq_true rfl) ?_
  intro p e s m args below meth c A ls hx hb hr hml hts hown hlocks hK hA hP hD hS hl
  have hl : lv_has ls 2 [(0, .ref (b 0)), (1, .int p1)] := hl
  have hP : va_P D vwCl (mdW k b M) s.heap := hP
  have w_0 := hts (.fieldLink RX2 25 "EffectTrainModel" "kept" "[I") (by decide +kernel)
  have w_1 : ∀ w ∈ wsX20, w ∈ wsX2_restore := by decide +kernel
  have w_2 := hts (.fieldLink RX2 16 "EffectTrainModel" "now" "[I") (by decide +kernel)
  have w_3 := hts (.fieldLink RX2 47 "EffectTrainModel" "acts" "I") (by decide +kernel)
  have w_4 := hts (.fieldLink RX2 28 "EffectTrainModel" "isKept" "[Z") (by decide +kernel)
  unfold f_X2_restore at h
  have hC_29 : ∀ (t0_29 : Int32) (H : Heap) (locs : List Loc) (ls : Array Slot), va_P D vwCl (mdW k b M) H → va_D A (mdW k b M) → va_S A s.heap H locs → lv_has ls 2 [(0, .ref (b 0)), (1, .int p1)] → f_X2_restore_29 M p1 t0_29 = some (o0, o1) → W p l e ({ frames := 1, cells := 0, slots := 0, locals := 25 } : Room) s m args below meth c H locs 0 0 (MQ below (Qk D A (some (.int o0)) (mdW k b o1)) args s 0 0 A) (F0 m 29 ls [.int t0_29, .ref (b 0)]) := by
    intro t0_29 H locs ls hP hD hS hl h
    unfold f_X2_restore_29 at h
    obtain ⟨⟨v_1, q_2⟩, hv_3, h⟩ := bd_l h
    refine Ck_V (As := [.int t0_29]) (rest := []) (wc := mdW k b M) (wc' := mdW k b q_2) (w0' := mdW k b q_2) ⟨hx, hb, hml, hown, hts⟩ (c_X2_refused l D k b M t0_29 v_1 q_2 hv_3) (cwV 1 hts gX2_restore_X2_refused rfl rfl rfl (by decide +kernel) ⟨Nat.le_of_ble_eq_true rfl, Nat.le_of_ble_eq_true rfl⟩) hK hP hD hS hA (q0 := 0) (ci := 2) rfl rfl [0, 1, 2, 3, 4, 5, 6, 7, 8, 9] rfl (by decide) rfl rfl rfl hl.1 rfl (Nat.le_of_ble_eq_true rfl) dX2_restore_29 ⟨Nat.le_of_ble_eq_true rfl, Nat.le_of_ble_eq_true rfl⟩ (fun H locs hP hD hS => ?_)
    refine W.eq (g2 := F0 m 32 ls [.int v_1]) rfl ?_
    refine lv_if_eq (tgt := 37) hx hb dX2_restore_32 (by decide) (fun c_4 => ?_) (fun c_4 => ?_)
    · have h := it_l c_4 h
      refine lv_aload_n hx hb dX2_restore_37 rfl (lv_at hl 0 rfl) ?_
      refine va_get (D := D) (ci := 2) (v := .ref (b 6)) (C := RX2) (T := TX2) (N := 15) hx hb hts w_1 hown hK hP 0 rfl rfl 11 (by decide) w_0 (fun _ h9 => h9) rfl dX2_restore_38 ?_
      refine lv_bipush (v := 64) hx hb dX2_restore_41 (by decide) ?_
      refine lv_iload_n hx hb dX2_restore_43 rfl (lv_at hl 1 rfl) ?_
      refine lv_imul hx hb dX2_restore_44 ?_
      refine lv_aload_n hx hb dX2_restore_45 rfl (lv_at hl 0 rfl) ?_
      refine va_get (D := D) (ci := 2) (v := .ref (b 3)) (C := RX2) (T := TX2) (N := 15) hx hb hts w_1 hown hK hP 0 rfl rfl 7 (by decide) w_2 (fun _ h9 => h9) rfl dX2_restore_46 ?_
      refine lv_iconst (v := 0) hx hb dX2_restore_49 (by decide) ?_
      refine lv_bipush (v := 64) hx hb dX2_restore_50 (by decide) ?_
      obtain ⟨q_5, hv_6, h⟩ := bd_l h
      obtain ⟨q_7, eq_7⟩ : ∃ y : MdV, y = mu_now q_2 q_5 := ⟨_, rfl⟩
      have h := nm_l h eq_7
      refine Ck_S (As := [.ref (b 6), .int (64 * p1), .ref (b 3), .int 0, .int 64]) (rest := []) (wc := [(b 6, .inl (k 0, 128, .inl (m_kep q_2)))] ++ [(b 3, .inl (k 0, 64, .inl (m_now q_2)))]) (wc' := [(b 6, .inl (k 0, 128, .inl (m_kep q_2)))] ++ [(b 3, .inl (k 0, 64, .inl q_5))]) (w0' := mdW k b q_7) ⟨hx, hb, hml, hown, hts⟩ (c_X2_copy l D k (b 6) (b 3) 128 64 (m_kep q_2) (m_now q_2) (64 * p1) 0 64 q_5 hv_6) (va_cwS 5 hts gX2_restore_X2_copy rfl rfl rfl (by decide +kernel) ⟨Nat.le_of_ble_eq_true rfl, Nat.le_of_ble_eq_true rfl⟩) hK hP hD hS hA [6, 3] rfl (by decide) rfl (by rw [eq_7]; simp only [va_sets, List.cons_append, List.nil_append, md_set_0, md_self_kep, md_set_now]) rfl hl.1 rfl (Nat.le_of_ble_eq_true rfl) dX2_restore_52 ⟨Nat.le_of_ble_eq_true rfl, Nat.le_of_ble_eq_true rfl⟩ (fun H locs hP hD hS => ?_)
      refine W.eq (g2 := F0 m 55 ls []) rfl ?_
      refine lv_aload_n hx hb dX2_restore_55 rfl (lv_at hl 0 rfl) ?_
      refine lv_iconst (v := 0) hx hb dX2_restore_56 (by decide) ?_
      refine va_put (D := D) (ci := 2) (v := .int 0) (ty := .int) (C := RX2) (T := TX2) (N := 15) hx hb hts w_1 tyX2 tyX2_ok nmX2 hown hK hP hD hS 0 rfl rfl 10 (by decide) w_3 (fun _ h9 => h9) rfl (by decide +kernel) rfl rfl (Nat.le_of_ble_eq_true rfl) dX2_restore_57 (fun H locs hP hD hS => ?_)
      obtain ⟨q_8, eq_8⟩ : ∃ y : MdV, y = mu_act q_7 0 := ⟨_, rfl⟩
      have hP : va_P D vwCl (mdW k b q_8) H := by rw [eq_8, ← md_set_act k b q_7 _]; exact hP
      have hD : va_D A (mdW k b q_8) := by rw [eq_8, ← md_set_act k b q_7 _]; exact hD
      have h := nm_l h eq_8
      refine lv_aload_n hx hb dX2_restore_60 rfl (lv_at hl 0 rfl) ?_
      refine va_get (D := D) (ci := 2) (v := .ref (b 3)) (C := RX2) (T := TX2) (N := 15) hx hb hts w_1 hown hK hP 0 rfl rfl 7 (by decide) w_2 (fun _ h9 => h9) rfl dX2_restore_61 ?_
      refine lv_bipush (v := 53) hx hb dX2_restore_64 (by decide) ?_
      refine va_iald hx hb hK hP 3 0 rfl rfl (inb_vp (by decide)) dX2_restore_66 ?_
      refine W.eq (g2 := F0 m 67 ls [.int ((m_now q_8) 53)]) rfl ?_
      cases h
      exact Ck_iret hx hb hr hP hD hS dX2_restore_67 hlocks
    · have h := it_r c_4 h
      refine lv_iconst (v := 0) hx hb dX2_restore_35 (by decide) ?_
      cases h
      exact Ck_iret hx hb hr hP hD hS dX2_restore_36 hlocks
  refine lv_aload_n hx hb dX2_restore_0 rfl (lv_at hl 0 rfl) ?_
  refine lv_iload_n hx hb dX2_restore_1 rfl (lv_at hl 1 rfl) ?_
  refine lv_i2l hx hb dX2_restore_2 rfl ?_
  refine lv_lconst (v := 0) hx hb dX2_restore_3 (by decide) ?_
  refine lv_lconst (v := 1) hx hb dX2_restore_4 (by decide) ?_
  obtain ⟨v_9, hv_10, h⟩ := bd_l h
  refine Ck_S (As := [.long (p1.toInt64), .long 0, .long 1]) (rest := [.ref (b 0)]) (wc := ([] : va_W)) (wc' := ([] : va_W)) (w0' := mdW k b M) ⟨hx, hb, hml, hown, hts⟩ (c_X2_in l D k  (p1.toInt64) 0 1 v_9 hv_10) (va_cwS 3 hts gX2_restore_X2_in rfl rfl rfl (by decide +kernel) ⟨Nat.le_of_ble_eq_true rfl, Nat.le_of_ble_eq_true rfl⟩) hK hP hD hS hA [] rfl (by decide) rfl rfl rfl hl.1 rfl (Nat.le_of_ble_eq_true rfl) dX2_restore_5 ⟨Nat.le_of_ble_eq_true rfl, Nat.le_of_ble_eq_true rfl⟩ (fun H locs hP hD hS => ?_)
  refine W.eq (g2 := F0 m 8 ls [.int v_9, .ref (b 0)]) rfl ?_
  refine lv_if_ne (tgt := 15) hx hb dX2_restore_8 (by decide) (fun c_11 => ?_) (fun c_11 => ?_)
  · have h := it_r c_11 h
    refine lv_aload_n hx hb dX2_restore_15 rfl (lv_at hl 0 rfl) ?_
    refine va_get (D := D) (ci := 2) (v := .ref (b 7)) (C := RX2) (T := TX2) (N := 15) hx hb hts w_1 hown hK hP 0 rfl rfl 12 (by decide) w_4 (fun _ h9 => h9) rfl dX2_restore_16 ?_
    refine lv_iload_n hx hb dX2_restore_19 rfl (lv_at hl 1 rfl) ?_
    have g_12 := inb_vp (gb_l h)
    have h := gb_r h
    refine va_zald hx hb hK hP 7 2 rfl rfl g_12 dX2_restore_20 ?_
    refine lv_if_ne (tgt := 28) hx hb dX2_restore_21 (by decide) (fun c_13 => ?_) (fun c_13 => ?_)
    · have h := it_r c_13 h
      refine lv_iconst (v := 0) hx hb dX2_restore_28 (by decide) ?_
      exact hC_29 0 _ _ _ hP hD hS (lv_sub hl [0, 1] rfl) h
    · have h := it_l c_13 h
      refine lv_iconst (v := 2) hx hb dX2_restore_24 (by decide) ?_
      refine lv_goto (tgt := 29) hx hb dX2_restore_25 (by decide) ?_
      exact hC_29 2 _ _ _ hP hD hS (lv_sub hl [0, 1] rfl) h
  · have h := it_l c_11 h
    refine lv_iconst (v := 1) hx hb dX2_restore_11 (by decide) ?_
    refine lv_goto (tgt := 29) hx hb dX2_restore_12 (by decide) ?_
    exact hC_29 1 _ _ _ hP hD hS (lv_sub hl [0, 1] rfl) h
