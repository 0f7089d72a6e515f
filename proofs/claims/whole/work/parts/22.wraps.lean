theorem ok_L_production (l : Launch) (hl : l.stackTraces = false) (D : Dd) (base b0 ao : Nat) (hb : b0 ≤ base) (hao : base + 681 ≤ ao) (M : Mm) (fo : Nat → Int64) (a1 : Int) (ha1 : i32 a1) (a2 : Int) (ha2 : i32 a2) (a3 : Int) (ha3 : i32 a3) (a4 : Int) (ha4 : i32 a4) (sz : Nat) (r : Int × Int × Mm) (ho : f_X11_production a1 a2 a3 a4 M = some r) (hr : r.1 = 0 ∨ r.1 = 1 ∨ r.1 = 2 ∨ r.1 = 3) : Met l yL_production (.codeWith yL_production cL_production 7 (some .int) [(0, 14, 17, 13), (0, 14, 21, 15), (0, 14, 25, 17)] :: LWL) (rmX 7 161 1 6) (PcL D base b0 ao M fo [.ref (base + 0), .int (Ii a1), .int (Ii a2), .int (Ii a3), .int (Ii a4), .ref ao] sz) (QcL D base ao (if r.1 = 1 then 1 else if r.1 = 2 then 2 else if r.1 = 3 then 3 else 0) r.2.2 (if r.1 = 0 then vp_updL fo 0 (Ll r.2.1) else fo) sz) 1 6 (FW base ao sz) := by
  refine Met_ofWH (hh := [(0, 14, 17, 13), (0, 14, 21, 15), (0, 14, 25, 17)]) (cc := cL_production) (maxL := 7) (ret := some .int) (by decide +kernel) rfl ?_
  intro p e s m args below meth c s₁ B hml hv
  obtain ⟨rfl, rfl, hW, hO, hK, hN, hKX⟩ := hv
  have hts := atoms_spec (ws := .codeWith yL_production cL_production 7 (some .int) [(0, 14, 17, 13), (0, 14, 21, 15), (0, 14, 25, 17)] :: LWL) B.pre
  have htb : c.exceptionTable.toList = tableOf [(0, 14, 17, 13), (0, 14, 21, 15), (0, 14, 25, 17)] := vx_table (x := yL_production) B (hts _ List.mem_cons_self)
  have hts : ∀ w ∈ LWL, w.before _ s = true := fun w hw => hts w (List.mem_cons_of_mem _ hw)
  have hrt := B.returns
  have hlk := B.notSynchronized
  have X : Cl_ p l s m _ c cL_production D 7 b0 := ⟨B.exec, B.bytes, hml, findClass_of_methodNamed B.named, hts, hK, hN, hKX⟩
  have hl9 := lv_entry [.ref (base + 0), .int (Ii a1), .int (Ii a2), .int (Ii a3), .int (Ii a4), .ref ao] (n := 7) (Nat.le_of_ble_eq_true rfl)
  rw [lg_entry_eq]
  change lv_has _ 7 [(0, .ref (base + 0)), (1, .int (Ii a1)), (2, .int (Ii a2)), (3, .int (Ii a3)), (4, .int (Ii a4)), (5, .ref ao)] at hl9
  refine (?_ : Gw p l e (rmX 7 161 1 6) s m _ below meth c D base ao 7 0 0 (MQ below (QcL D base ao (if r.1 = 1 then 1 else if r.1 = 2 then 2 else if r.1 = 3 then 3 else 0) r.2.2 (if r.1 = 0 then vp_updL fo 0 (Ll r.2.1) else fo) s.heap.size) _ s 1 6 (FW base ao s.heap.size)) M fo 0 [(0, .ref (base + 0)), (1, .int (Ii a1)), (2, .int (Ii a2)), (3, .int (Ii a3)), (4, .int (Ii a4)), (5, .ref ao)] []) s.heap [] _ hW hO va_S.rf hl9
  refine gw_aload X dL_production_0 5 rfl ?_
  refine gw_iconst (v := 0) X dL_production_2 rfl ?_
  refine gw_aload_n X dL_production_3 rfl 0 rfl ?_
  refine gw_iload_n X dL_production_4 rfl 1 rfl ?_
  refine gw_iload_n X dL_production_5 rfl 2 rfl ?_
  refine gw_iload_n X dL_production_6 rfl 3 rfl ?_
  refine gw_iload X dL_production_7 4 rfl ?_
  refine gw_call X hb hao (ok_X11_production l hl D base b0 hb M a1 ha1 a2 ha2 a3 ha3 a4 ha4) ho dL_production_9 ll3 ll4 ll5 lw19 lw707 cy_X11_production ⟨Nat.le_of_ble_eq_true rfl, Nat.le_of_ble_eq_true rfl⟩ rfl rfl rfl (Nat.le_of_ble_eq_true rfl) ⟨Nat.le_of_ble_eq_true rfl, Nat.le_of_ble_eq_true rfl⟩ (fun hp => ?_) (fun h0 hk0 => ?_)
  · have hq : r.1 = 1 ∨ r.1 = 2 ∨ r.1 = 3 := by omega
    rcases hq with hq | hq | hq
    · refine ⟨[], ⟨0, 14, 17, 13⟩, [⟨0, 14, 21, 15⟩, ⟨0, 14, 25, 17⟩], exn 1, by rw [htb]; rfl, (fun z hz => by cases hz), by decide, by decide, hts _ (inL _ ll0), ?_, fun q9 => ?_⟩
      · rw [hq]; exact va_Nw.use rfl (hKX.1 (.castable (exn 1) (exn 1)) (by decide +kernel))
      · refine gw_astore (L' := [(6, .ref q9), (0, .ref (base + 0)), (1, .int (Ii a1)), (2, .int (Ii a2)), (3, .int (Ii a3)), (4, .int (Ii a4)), (5, .ref ao)]) X dL_production_17 (by decide) rfl ?_
        refine gw_iconst (v := 1) X dL_production_19 rfl ?_
        exact gw_ireturn X hrt hlk dL_production_20 (Nat.le_of_ble_eq_true rfl) (Nat.le_of_ble_eq_true rfl) (by rw [hq]; rfl) rfl (by rw [hq]; rfl)
    · refine ⟨[⟨0, 14, 17, 13⟩], ⟨0, 14, 21, 15⟩, [⟨0, 14, 25, 17⟩], exn 2, by rw [htb]; rfl, (fun z hz => by
        simp only [List.mem_cons, List.not_mem_nil, or_false] at hz
        rcases hz with rfl
        · exact Or.inr ⟨by decide, exn 1, hts _ (inL _ ll0), by rw [hq]; exact hKX.2.2.2.2 (exn 2, exn 1) (by decide +kernel)⟩), by decide, by decide, hts _ (inL _ ll1), ?_, fun q9 => ?_⟩
      · rw [hq]; exact va_Nw.use rfl (hKX.1 (.castable (exn 2) (exn 2)) (by decide +kernel))
      · refine gw_astore (L' := [(6, .ref q9), (0, .ref (base + 0)), (1, .int (Ii a1)), (2, .int (Ii a2)), (3, .int (Ii a3)), (4, .int (Ii a4)), (5, .ref ao)]) X dL_production_21 (by decide) rfl ?_
        refine gw_iconst (v := 2) X dL_production_23 rfl ?_
        exact gw_ireturn X hrt hlk dL_production_24 (Nat.le_of_ble_eq_true rfl) (Nat.le_of_ble_eq_true rfl) (by rw [hq]; rfl) rfl (by rw [hq]; rfl)
    · refine ⟨[⟨0, 14, 17, 13⟩, ⟨0, 14, 21, 15⟩], ⟨0, 14, 25, 17⟩, [], exn 3, by rw [htb]; rfl, (fun z hz => by
        simp only [List.mem_cons, List.not_mem_nil, or_false] at hz
        rcases hz with rfl | rfl
        · exact Or.inr ⟨by decide, exn 1, hts _ (inL _ ll0), by rw [hq]; exact hKX.2.2.2.2 (exn 3, exn 1) (by decide +kernel)⟩
        · exact Or.inr ⟨by decide, exn 2, hts _ (inL _ ll1), by rw [hq]; exact hKX.2.2.2.2 (exn 3, exn 2) (by decide +kernel)⟩), by decide, by decide, hts _ (inL _ ll2), ?_, fun q9 => ?_⟩
      · rw [hq]; exact va_Nw.use rfl (hKX.1 (.castable (exn 3) (exn 3)) (by decide +kernel))
      · refine gw_astore (L' := [(6, .ref q9), (0, .ref (base + 0)), (1, .int (Ii a1)), (2, .int (Ii a2)), (3, .int (Ii a3)), (4, .int (Ii a4)), (5, .ref ao)]) X dL_production_25 (by decide) rfl ?_
        refine gw_iconst (v := 3) X dL_production_27 rfl ?_
        exact gw_ireturn X hrt hlk dL_production_28 (Nat.le_of_ble_eq_true rfl) (Nat.le_of_ble_eq_true rfl) (by rw [hq]; rfl) rfl (by rw [hq]; rfl)
  · refine gw_i2l X dL_production_12 hk0 ?_
    refine gw_lastore X hao dL_production_13 ?_
    refine gw_goto (tgt := 29) X dL_production_14 rfl ?_
    refine gw_iconst (v := 0) X dL_production_29 rfl ?_
    exact gw_ireturn X hrt hlk dL_production_30 (Nat.le_of_ble_eq_true rfl) (Nat.le_of_ble_eq_true rfl) (by rw [h0]; rfl) rfl (by rw [if_pos h0])
theorem ok_L_forward (l : Launch) (hl : l.stackTraces = false) (D : Dd) (base b0 ao : Nat) (hb : b0 ≤ base) (hao : base + 681 ≤ ao) (M : Mm) (fo : Nat → Int64) (a1 : Int) (ha1 : i32 a1) (a2 : Int) (ha2 : i32 a2) (a3 : Int) (ha3 : i32 a3) (a4 : Int) (ha4 : i32 a4) (a5 : Int) (ha5 : i32 a5) (sz : Nat) (r : Int × Int × Mm) (ho : f_X11_forward a1 a2 a3 a4 a5 M = some r) (hr : r.1 = 0 ∨ r.1 = 1 ∨ r.1 = 2) : Met l yL_forward (.codeWith yL_forward cL_forward 8 (some .int) [(0, 16, 19, 13), (0, 16, 23, 15)] :: LWL) (rmX 7 162 1 6) (PcL D base b0 ao M fo [.ref (base + 0), .int (Ii a1), .int (Ii a2), .int (Ii a3), .int (Ii a4), .int (Ii a5), .ref ao] sz) (QcL D base ao (if r.1 = 1 then 1 else if r.1 = 2 then 2 else 0) r.2.2 (if r.1 = 0 then vp_updL fo 0 (Ll r.2.1) else fo) sz) 1 6 (FW base ao sz) := by
  refine Met_ofWH (hh := [(0, 16, 19, 13), (0, 16, 23, 15)]) (cc := cL_forward) (maxL := 8) (ret := some .int) (by decide +kernel) rfl ?_
  intro p e s m args below meth c s₁ B hml hv
  obtain ⟨rfl, rfl, hW, hO, hK, hN, hKX⟩ := hv
  have hts := atoms_spec (ws := .codeWith yL_forward cL_forward 8 (some .int) [(0, 16, 19, 13), (0, 16, 23, 15)] :: LWL) B.pre
  have htb : c.exceptionTable.toList = tableOf [(0, 16, 19, 13), (0, 16, 23, 15)] := vx_table (x := yL_forward) B (hts _ List.mem_cons_self)
  have hts : ∀ w ∈ LWL, w.before _ s = true := fun w hw => hts w (List.mem_cons_of_mem _ hw)
  have hrt := B.returns
  have hlk := B.notSynchronized
  have X : Cl_ p l s m _ c cL_forward D 8 b0 := ⟨B.exec, B.bytes, hml, findClass_of_methodNamed B.named, hts, hK, hN, hKX⟩
  have hl9 := lv_entry [.ref (base + 0), .int (Ii a1), .int (Ii a2), .int (Ii a3), .int (Ii a4), .int (Ii a5), .ref ao] (n := 8) (Nat.le_of_ble_eq_true rfl)
  rw [lg_entry_eq]
  change lv_has _ 8 [(0, .ref (base + 0)), (1, .int (Ii a1)), (2, .int (Ii a2)), (3, .int (Ii a3)), (4, .int (Ii a4)), (5, .int (Ii a5)), (6, .ref ao)] at hl9
  refine (?_ : Gw p l e (rmX 7 162 1 6) s m _ below meth c D base ao 8 0 0 (MQ below (QcL D base ao (if r.1 = 1 then 1 else if r.1 = 2 then 2 else 0) r.2.2 (if r.1 = 0 then vp_updL fo 0 (Ll r.2.1) else fo) s.heap.size) _ s 1 6 (FW base ao s.heap.size)) M fo 0 [(0, .ref (base + 0)), (1, .int (Ii a1)), (2, .int (Ii a2)), (3, .int (Ii a3)), (4, .int (Ii a4)), (5, .int (Ii a5)), (6, .ref ao)] []) s.heap [] _ hW hO va_S.rf hl9
  refine gw_aload X dL_forward_0 6 rfl ?_
  refine gw_iconst (v := 0) X dL_forward_2 rfl ?_
  refine gw_aload_n X dL_forward_3 rfl 0 rfl ?_
  refine gw_iload_n X dL_forward_4 rfl 1 rfl ?_
  refine gw_iload_n X dL_forward_5 rfl 2 rfl ?_
  refine gw_iload_n X dL_forward_6 rfl 3 rfl ?_
  refine gw_iload X dL_forward_7 4 rfl ?_
  refine gw_iload X dL_forward_9 5 rfl ?_
  refine gw_call X hb hao (ok_X11_forward l hl D base b0 hb M a1 ha1 a2 ha2 a3 ha3 a4 ha4 a5 ha5) ho dL_forward_11 ll7 ll8 ll9 lw19 lw725 cy_X11_forward ⟨Nat.le_of_ble_eq_true rfl, Nat.le_of_ble_eq_true rfl⟩ rfl rfl rfl (Nat.le_of_ble_eq_true rfl) ⟨Nat.le_of_ble_eq_true rfl, Nat.le_of_ble_eq_true rfl⟩ (fun hp => ?_) (fun h0 hk0 => ?_)
  · have hq : r.1 = 1 ∨ r.1 = 2 := by omega
    rcases hq with hq | hq
    · refine ⟨[], ⟨0, 16, 19, 13⟩, [⟨0, 16, 23, 15⟩], exn 1, by rw [htb]; rfl, (fun z hz => by cases hz), by decide, by decide, hts _ (inL _ ll0), ?_, fun q9 => ?_⟩
      · rw [hq]; exact va_Nw.use rfl (hKX.1 (.castable (exn 1) (exn 1)) (by decide +kernel))
      · refine gw_astore (L' := [(7, .ref q9), (0, .ref (base + 0)), (1, .int (Ii a1)), (2, .int (Ii a2)), (3, .int (Ii a3)), (4, .int (Ii a4)), (5, .int (Ii a5)), (6, .ref ao)]) X dL_forward_19 (by decide) rfl ?_
        refine gw_iconst (v := 1) X dL_forward_21 rfl ?_
        exact gw_ireturn X hrt hlk dL_forward_22 (Nat.le_of_ble_eq_true rfl) (Nat.le_of_ble_eq_true rfl) (by rw [hq]; rfl) rfl (by rw [hq]; rfl)
    · refine ⟨[⟨0, 16, 19, 13⟩], ⟨0, 16, 23, 15⟩, [], exn 2, by rw [htb]; rfl, (fun z hz => by
        simp only [List.mem_cons, List.not_mem_nil, or_false] at hz
        rcases hz with rfl
        · exact Or.inr ⟨by decide, exn 1, hts _ (inL _ ll0), by rw [hq]; exact hKX.2.2.2.2 (exn 2, exn 1) (by decide +kernel)⟩), by decide, by decide, hts _ (inL _ ll1), ?_, fun q9 => ?_⟩
      · rw [hq]; exact va_Nw.use rfl (hKX.1 (.castable (exn 2) (exn 2)) (by decide +kernel))
      · refine gw_astore (L' := [(7, .ref q9), (0, .ref (base + 0)), (1, .int (Ii a1)), (2, .int (Ii a2)), (3, .int (Ii a3)), (4, .int (Ii a4)), (5, .int (Ii a5)), (6, .ref ao)]) X dL_forward_23 (by decide) rfl ?_
        refine gw_iconst (v := 2) X dL_forward_25 rfl ?_
        exact gw_ireturn X hrt hlk dL_forward_26 (Nat.le_of_ble_eq_true rfl) (Nat.le_of_ble_eq_true rfl) (by rw [hq]; rfl) rfl (by rw [hq]; rfl)
  · refine gw_i2l X dL_forward_14 hk0 ?_
    refine gw_lastore X hao dL_forward_15 ?_
    refine gw_goto (tgt := 27) X dL_forward_16 rfl ?_
    refine gw_iconst (v := 0) X dL_forward_27 rfl ?_
    exact gw_ireturn X hrt hlk dL_forward_28 (Nat.le_of_ble_eq_true rfl) (Nat.le_of_ble_eq_true rfl) (by rw [h0]; rfl) rfl (by rw [if_pos h0])
theorem ok_L_rule (l : Launch) (hl : l.stackTraces = false) (D : Dd) (base b0 ao : Nat) (hb : b0 ≤ base) (hao : base + 681 ≤ ao) (M : Mm) (fo : Nat → Int64) (a1 : Int) (ha1 : i32 a1) (a2 : Int) (ha2 : i32 a2) (a3 : Int) (ha3 : i32 a3) (sz : Nat) (r : Int × Int × Mm) (ho : f_X11_rule a1 a2 a3 M = some r) (hr : r.1 = 0 ∨ r.1 = 1 ∨ r.1 = 2) : Met l yL_rule (.codeWith yL_rule cL_rule 6 (some .int) [(0, 12, 15, 13), (0, 12, 19, 15)] :: LWL) (rmX 8 160 2 12) (PcL D base b0 ao M fo [.ref (base + 0), .int (Ii a1), .int (Ii a2), .int (Ii a3), .ref ao] sz) (QcL D base ao (if r.1 = 1 then 1 else if r.1 = 2 then 2 else 0) r.2.2 (if r.1 = 0 then vp_updL fo 0 (Ll r.2.1) else fo) sz) 2 12 (FW base ao sz) := by
  refine Met_ofWH (hh := [(0, 12, 15, 13), (0, 12, 19, 15)]) (cc := cL_rule) (maxL := 6) (ret := some .int) (by decide +kernel) rfl ?_
  intro p e s m args below meth c s₁ B hml hv
  obtain ⟨rfl, rfl, hW, hO, hK, hN, hKX⟩ := hv
  have hts := atoms_spec (ws := .codeWith yL_rule cL_rule 6 (some .int) [(0, 12, 15, 13), (0, 12, 19, 15)] :: LWL) B.pre
  have htb : c.exceptionTable.toList = tableOf [(0, 12, 15, 13), (0, 12, 19, 15)] := vx_table (x := yL_rule) B (hts _ List.mem_cons_self)
  have hts : ∀ w ∈ LWL, w.before _ s = true := fun w hw => hts w (List.mem_cons_of_mem _ hw)
  have hrt := B.returns
  have hlk := B.notSynchronized
  have X : Cl_ p l s m _ c cL_rule D 6 b0 := ⟨B.exec, B.bytes, hml, findClass_of_methodNamed B.named, hts, hK, hN, hKX⟩
  have hl9 := lv_entry [.ref (base + 0), .int (Ii a1), .int (Ii a2), .int (Ii a3), .ref ao] (n := 6) (Nat.le_of_ble_eq_true rfl)
  rw [lg_entry_eq]
  change lv_has _ 6 [(0, .ref (base + 0)), (1, .int (Ii a1)), (2, .int (Ii a2)), (3, .int (Ii a3)), (4, .ref ao)] at hl9
  refine (?_ : Gw p l e (rmX 8 160 2 12) s m _ below meth c D base ao 6 0 0 (MQ below (QcL D base ao (if r.1 = 1 then 1 else if r.1 = 2 then 2 else 0) r.2.2 (if r.1 = 0 then vp_updL fo 0 (Ll r.2.1) else fo) s.heap.size) _ s 2 12 (FW base ao s.heap.size)) M fo 0 [(0, .ref (base + 0)), (1, .int (Ii a1)), (2, .int (Ii a2)), (3, .int (Ii a3)), (4, .ref ao)] []) s.heap [] _ hW hO va_S.rf hl9
  refine gw_aload X dL_rule_0 4 rfl ?_
  refine gw_iconst (v := 0) X dL_rule_2 rfl ?_
  refine gw_aload_n X dL_rule_3 rfl 0 rfl ?_
  refine gw_iload_n X dL_rule_4 rfl 1 rfl ?_
  refine gw_iload_n X dL_rule_5 rfl 2 rfl ?_
  refine gw_iload_n X dL_rule_6 rfl 3 rfl ?_
  refine gw_call X hb hao (ok_X11_rule l hl D base b0 hb M a1 ha1 a2 ha2 a3 ha3) ho dL_rule_7 ll11 ll12 ll13 lw19 lw739 cy_X11_rule ⟨Nat.le_of_ble_eq_true rfl, Nat.le_of_ble_eq_true rfl⟩ rfl rfl rfl (Nat.le_of_ble_eq_true rfl) ⟨Nat.le_of_ble_eq_true rfl, Nat.le_of_ble_eq_true rfl⟩ (fun hp => ?_) (fun h0 hk0 => ?_)
  · have hq : r.1 = 1 ∨ r.1 = 2 := by omega
    rcases hq with hq | hq
    · refine ⟨[], ⟨0, 12, 15, 13⟩, [⟨0, 12, 19, 15⟩], exn 1, by rw [htb]; rfl, (fun z hz => by cases hz), by decide, by decide, hts _ (inL _ ll0), ?_, fun q9 => ?_⟩
      · rw [hq]; exact va_Nw.use rfl (hKX.1 (.castable (exn 1) (exn 1)) (by decide +kernel))
      · refine gw_astore (L' := [(5, .ref q9), (0, .ref (base + 0)), (1, .int (Ii a1)), (2, .int (Ii a2)), (3, .int (Ii a3)), (4, .ref ao)]) X dL_rule_15 (by decide) rfl ?_
        refine gw_iconst (v := 1) X dL_rule_17 rfl ?_
        exact gw_ireturn X hrt hlk dL_rule_18 (Nat.le_of_ble_eq_true rfl) (Nat.le_of_ble_eq_true rfl) (by rw [hq]; rfl) rfl (by rw [hq]; rfl)
    · refine ⟨[⟨0, 12, 15, 13⟩], ⟨0, 12, 19, 15⟩, [], exn 2, by rw [htb]; rfl, (fun z hz => by
        simp only [List.mem_cons, List.not_mem_nil, or_false] at hz
        rcases hz with rfl
        · exact Or.inr ⟨by decide, exn 1, hts _ (inL _ ll0), by rw [hq]; exact hKX.2.2.2.2 (exn 2, exn 1) (by decide +kernel)⟩), by decide, by decide, hts _ (inL _ ll1), ?_, fun q9 => ?_⟩
      · rw [hq]; exact va_Nw.use rfl (hKX.1 (.castable (exn 2) (exn 2)) (by decide +kernel))
      · refine gw_astore (L' := [(5, .ref q9), (0, .ref (base + 0)), (1, .int (Ii a1)), (2, .int (Ii a2)), (3, .int (Ii a3)), (4, .ref ao)]) X dL_rule_19 (by decide) rfl ?_
        refine gw_iconst (v := 2) X dL_rule_21 rfl ?_
        exact gw_ireturn X hrt hlk dL_rule_22 (Nat.le_of_ble_eq_true rfl) (Nat.le_of_ble_eq_true rfl) (by rw [hq]; rfl) rfl (by rw [hq]; rfl)
  · refine gw_i2l X dL_rule_10 hk0 ?_
    refine gw_lastore X hao dL_rule_11 ?_
    refine gw_goto (tgt := 23) X dL_rule_12 rfl ?_
    refine gw_iconst (v := 0) X dL_rule_23 rfl ?_
    exact gw_ireturn X hrt hlk dL_rule_24 (Nat.le_of_ble_eq_true rfl) (Nat.le_of_ble_eq_true rfl) (by rw [h0]; rfl) rfl (by rw [if_pos h0])
theorem ok_L_attribute (l : Launch) (hl : l.stackTraces = false) (D : Dd) (base b0 ao : Nat) (hb : b0 ≤ base) (hao : base + 681 ≤ ao) (M : Mm) (fo : Nat → Int64) (a1 : Int) (ha1 : i32 a1) (sz : Nat) (r : Int × Int × Mm) (ho : f_X11_attribute a1 M = some r) (hr : r.1 = 0 ∨ r.1 = 2 ∨ r.1 = 3) : Met l yL_attribute (.codeWith yL_attribute cL_attribute 4 (some .int) [(0, 9, 12, 15), (0, 9, 15, 17)] :: LWL) (rmX 7 158 1 6) (PcL D base b0 ao M fo [.ref (base + 0), .int (Ii a1), .ref ao] sz) (QcL D base ao (if r.1 = 2 then 1 else if r.1 = 3 then 2 else 0) r.2.2 (if r.1 = 0 then vp_updL fo 0 (Ll r.2.1) else fo) sz) 1 6 (FW base ao sz) := by
  refine Met_ofWH (hh := [(0, 9, 12, 15), (0, 9, 15, 17)]) (cc := cL_attribute) (maxL := 4) (ret := some .int) (by decide +kernel) rfl ?_
  intro p e s m args below meth c s₁ B hml hv
  obtain ⟨rfl, rfl, hW, hO, hK, hN, hKX⟩ := hv
  have hts := atoms_spec (ws := .codeWith yL_attribute cL_attribute 4 (some .int) [(0, 9, 12, 15), (0, 9, 15, 17)] :: LWL) B.pre
  have htb : c.exceptionTable.toList = tableOf [(0, 9, 12, 15), (0, 9, 15, 17)] := vx_table (x := yL_attribute) B (hts _ List.mem_cons_self)
  have hts : ∀ w ∈ LWL, w.before _ s = true := fun w hw => hts w (List.mem_cons_of_mem _ hw)
  have hrt := B.returns
  have hlk := B.notSynchronized
  have X : Cl_ p l s m _ c cL_attribute D 4 b0 := ⟨B.exec, B.bytes, hml, findClass_of_methodNamed B.named, hts, hK, hN, hKX⟩
  have hl9 := lv_entry [.ref (base + 0), .int (Ii a1), .ref ao] (n := 4) (Nat.le_of_ble_eq_true rfl)
  rw [lg_entry_eq]
  change lv_has _ 4 [(0, .ref (base + 0)), (1, .int (Ii a1)), (2, .ref ao)] at hl9
  refine (?_ : Gw p l e (rmX 7 158 1 6) s m _ below meth c D base ao 4 0 0 (MQ below (QcL D base ao (if r.1 = 2 then 1 else if r.1 = 3 then 2 else 0) r.2.2 (if r.1 = 0 then vp_updL fo 0 (Ll r.2.1) else fo) s.heap.size) _ s 1 6 (FW base ao s.heap.size)) M fo 0 [(0, .ref (base + 0)), (1, .int (Ii a1)), (2, .ref ao)] []) s.heap [] _ hW hO va_S.rf hl9
  refine gw_aload_n X dL_attribute_0 rfl 2 rfl ?_
  refine gw_iconst (v := 0) X dL_attribute_1 rfl ?_
  refine gw_aload_n X dL_attribute_2 rfl 0 rfl ?_
  refine gw_iload_n X dL_attribute_3 rfl 1 rfl ?_
  refine gw_call X hb hao (ok_X11_attribute l hl D base b0 hb M a1 ha1) ho dL_attribute_4 ll15 ll16 ll17 lw19 lw744 cy_X11_attribute ⟨Nat.le_of_ble_eq_true rfl, Nat.le_of_ble_eq_true rfl⟩ rfl rfl rfl (Nat.le_of_ble_eq_true rfl) ⟨Nat.le_of_ble_eq_true rfl, Nat.le_of_ble_eq_true rfl⟩ (fun hp => ?_) (fun h0 hk0 => ?_)
  · have hq : r.1 = 2 ∨ r.1 = 3 := by omega
    rcases hq with hq | hq
    · refine ⟨[], ⟨0, 9, 12, 15⟩, [⟨0, 9, 15, 17⟩], exn 2, by rw [htb]; rfl, (fun z hz => by cases hz), by decide, by decide, hts _ (inL _ ll1), ?_, fun q9 => ?_⟩
      · rw [hq]; exact va_Nw.use rfl (hKX.1 (.castable (exn 2) (exn 2)) (by decide +kernel))
      · refine gw_astore_n (L' := [(3, .ref q9), (0, .ref (base + 0)), (1, .int (Ii a1)), (2, .ref ao)]) X dL_attribute_12 rfl (by decide) rfl ?_
        refine gw_iconst (v := 1) X dL_attribute_13 rfl ?_
        exact gw_ireturn X hrt hlk dL_attribute_14 (Nat.le_of_ble_eq_true rfl) (Nat.le_of_ble_eq_true rfl) (by rw [hq]; rfl) rfl (by rw [hq]; rfl)
    · refine ⟨[⟨0, 9, 12, 15⟩], ⟨0, 9, 15, 17⟩, [], exn 3, by rw [htb]; rfl, (fun z hz => by
        simp only [List.mem_cons, List.not_mem_nil, or_false] at hz
        rcases hz with rfl
        · exact Or.inr ⟨by decide, exn 2, hts _ (inL _ ll1), by rw [hq]; exact hKX.2.2.2.2 (exn 3, exn 2) (by decide +kernel)⟩), by decide, by decide, hts _ (inL _ ll2), ?_, fun q9 => ?_⟩
      · rw [hq]; exact va_Nw.use rfl (hKX.1 (.castable (exn 3) (exn 3)) (by decide +kernel))
      · refine gw_astore_n (L' := [(3, .ref q9), (0, .ref (base + 0)), (1, .int (Ii a1)), (2, .ref ao)]) X dL_attribute_15 rfl (by decide) rfl ?_
        refine gw_iconst (v := 2) X dL_attribute_16 rfl ?_
        exact gw_ireturn X hrt hlk dL_attribute_17 (Nat.le_of_ble_eq_true rfl) (Nat.le_of_ble_eq_true rfl) (by rw [hq]; rfl) rfl (by rw [hq]; rfl)
  · refine gw_i2l X dL_attribute_7 hk0 ?_
    refine gw_lastore X hao dL_attribute_8 ?_
    refine gw_goto (tgt := 18) X dL_attribute_9 rfl ?_
    refine gw_iconst (v := 0) X dL_attribute_18 rfl ?_
    exact gw_ireturn X hrt hlk dL_attribute_19 (Nat.le_of_ble_eq_true rfl) (Nat.le_of_ble_eq_true rfl) (by rw [h0]; rfl) rfl (by rw [if_pos h0])
theorem ok_L_step (l : Launch) (hl : l.stackTraces = false) (D : Dd) (base b0 ao : Nat) (hb : b0 ≤ base) (hao : base + 681 ≤ ao) (M : Mm) (fo : Nat → Int64) (a1 : Int) (ha1 : i32 a1) (a2 : Int) (ha2 : i32 a2) (a3 : Int) (ha3 : i32 a3) (sz : Nat) (r : Int × Int × Mm) (ho : f_X11_step a1 a2 a3 M = some r) (hr : r.1 = 0 ∨ r.1 = 1 ∨ r.1 = 2 ∨ r.1 = 3) : Met l yL_step (.codeWith yL_step cL_step 6 (some .int) [(0, 12, 15, 13), (0, 12, 19, 15), (0, 12, 23, 17)] :: LWL) (rmX 8 126 2 12) (PcL D base b0 ao M fo [.ref (base + 0), .int (Ii a1), .int (Ii a2), .int (Ii a3), .ref ao] sz) (QcL D base ao (if r.1 = 1 then 1 else if r.1 = 2 then 2 else if r.1 = 3 then 3 else 0) r.2.2 (if r.1 = 0 then vp_updL fo 0 (Ll r.2.1) else fo) sz) 2 12 (FW base ao sz) := by
  refine Met_ofWH (hh := [(0, 12, 15, 13), (0, 12, 19, 15), (0, 12, 23, 17)]) (cc := cL_step) (maxL := 6) (ret := some .int) (by decide +kernel) rfl ?_
  intro p e s m args below meth c s₁ B hml hv
  obtain ⟨rfl, rfl, hW, hO, hK, hN, hKX⟩ := hv
  have hts := atoms_spec (ws := .codeWith yL_step cL_step 6 (some .int) [(0, 12, 15, 13), (0, 12, 19, 15), (0, 12, 23, 17)] :: LWL) B.pre
  have htb : c.exceptionTable.toList = tableOf [(0, 12, 15, 13), (0, 12, 19, 15), (0, 12, 23, 17)] := vx_table (x := yL_step) B (hts _ List.mem_cons_self)
  have hts : ∀ w ∈ LWL, w.before _ s = true := fun w hw => hts w (List.mem_cons_of_mem _ hw)
  have hrt := B.returns
  have hlk := B.notSynchronized
  have X : Cl_ p l s m _ c cL_step D 6 b0 := ⟨B.exec, B.bytes, hml, findClass_of_methodNamed B.named, hts, hK, hN, hKX⟩
  have hl9 := lv_entry [.ref (base + 0), .int (Ii a1), .int (Ii a2), .int (Ii a3), .ref ao] (n := 6) (Nat.le_of_ble_eq_true rfl)
  rw [lg_entry_eq]
  change lv_has _ 6 [(0, .ref (base + 0)), (1, .int (Ii a1)), (2, .int (Ii a2)), (3, .int (Ii a3)), (4, .ref ao)] at hl9
  refine (?_ : Gw p l e (rmX 8 126 2 12) s m _ below meth c D base ao 6 0 0 (MQ below (QcL D base ao (if r.1 = 1 then 1 else if r.1 = 2 then 2 else if r.1 = 3 then 3 else 0) r.2.2 (if r.1 = 0 then vp_updL fo 0 (Ll r.2.1) else fo) s.heap.size) _ s 2 12 (FW base ao s.heap.size)) M fo 0 [(0, .ref (base + 0)), (1, .int (Ii a1)), (2, .int (Ii a2)), (3, .int (Ii a3)), (4, .ref ao)] []) s.heap [] _ hW hO va_S.rf hl9
  refine gw_aload X dL_step_0 4 rfl ?_
  refine gw_iconst (v := 0) X dL_step_2 rfl ?_
  refine gw_aload_n X dL_step_3 rfl 0 rfl ?_
  refine gw_iload_n X dL_step_4 rfl 1 rfl ?_
  refine gw_iload_n X dL_step_5 rfl 2 rfl ?_
  refine gw_iload_n X dL_step_6 rfl 3 rfl ?_
  refine gw_call X hb hao (ok_X11_step l hl D base b0 hb M a1 ha1 a2 ha2 a3 ha3) ho dL_step_7 ll19 ll20 ll21 lw19 lw760 cy_X11_step ⟨Nat.le_of_ble_eq_true rfl, Nat.le_of_ble_eq_true rfl⟩ rfl rfl rfl (Nat.le_of_ble_eq_true rfl) ⟨Nat.le_of_ble_eq_true rfl, Nat.le_of_ble_eq_true rfl⟩ (fun hp => ?_) (fun h0 hk0 => ?_)
  · have hq : r.1 = 1 ∨ r.1 = 2 ∨ r.1 = 3 := by omega
    rcases hq with hq | hq | hq
    · refine ⟨[], ⟨0, 12, 15, 13⟩, [⟨0, 12, 19, 15⟩, ⟨0, 12, 23, 17⟩], exn 1, by rw [htb]; rfl, (fun z hz => by cases hz), by decide, by decide, hts _ (inL _ ll0), ?_, fun q9 => ?_⟩
      · rw [hq]; exact va_Nw.use rfl (hKX.1 (.castable (exn 1) (exn 1)) (by decide +kernel))
      · refine gw_astore (L' := [(5, .ref q9), (0, .ref (base + 0)), (1, .int (Ii a1)), (2, .int (Ii a2)), (3, .int (Ii a3)), (4, .ref ao)]) X dL_step_15 (by decide) rfl ?_
        refine gw_iconst (v := 1) X dL_step_17 rfl ?_
        exact gw_ireturn X hrt hlk dL_step_18 (Nat.le_of_ble_eq_true rfl) (Nat.le_of_ble_eq_true rfl) (by rw [hq]; rfl) rfl (by rw [hq]; rfl)
    · refine ⟨[⟨0, 12, 15, 13⟩], ⟨0, 12, 19, 15⟩, [⟨0, 12, 23, 17⟩], exn 2, by rw [htb]; rfl, (fun z hz => by
        simp only [List.mem_cons, List.not_mem_nil, or_false] at hz
        rcases hz with rfl
        · exact Or.inr ⟨by decide, exn 1, hts _ (inL _ ll0), by rw [hq]; exact hKX.2.2.2.2 (exn 2, exn 1) (by decide +kernel)⟩), by decide, by decide, hts _ (inL _ ll1), ?_, fun q9 => ?_⟩
      · rw [hq]; exact va_Nw.use rfl (hKX.1 (.castable (exn 2) (exn 2)) (by decide +kernel))
      · refine gw_astore (L' := [(5, .ref q9), (0, .ref (base + 0)), (1, .int (Ii a1)), (2, .int (Ii a2)), (3, .int (Ii a3)), (4, .ref ao)]) X dL_step_19 (by decide) rfl ?_
        refine gw_iconst (v := 2) X dL_step_21 rfl ?_
        exact gw_ireturn X hrt hlk dL_step_22 (Nat.le_of_ble_eq_true rfl) (Nat.le_of_ble_eq_true rfl) (by rw [hq]; rfl) rfl (by rw [hq]; rfl)
    · refine ⟨[⟨0, 12, 15, 13⟩, ⟨0, 12, 19, 15⟩], ⟨0, 12, 23, 17⟩, [], exn 3, by rw [htb]; rfl, (fun z hz => by
        simp only [List.mem_cons, List.not_mem_nil, or_false] at hz
        rcases hz with rfl | rfl
        · exact Or.inr ⟨by decide, exn 1, hts _ (inL _ ll0), by rw [hq]; exact hKX.2.2.2.2 (exn 3, exn 1) (by decide +kernel)⟩
        · exact Or.inr ⟨by decide, exn 2, hts _ (inL _ ll1), by rw [hq]; exact hKX.2.2.2.2 (exn 3, exn 2) (by decide +kernel)⟩), by decide, by decide, hts _ (inL _ ll2), ?_, fun q9 => ?_⟩
      · rw [hq]; exact va_Nw.use rfl (hKX.1 (.castable (exn 3) (exn 3)) (by decide +kernel))
      · refine gw_astore (L' := [(5, .ref q9), (0, .ref (base + 0)), (1, .int (Ii a1)), (2, .int (Ii a2)), (3, .int (Ii a3)), (4, .ref ao)]) X dL_step_23 (by decide) rfl ?_
        refine gw_iconst (v := 3) X dL_step_25 rfl ?_
        exact gw_ireturn X hrt hlk dL_step_26 (Nat.le_of_ble_eq_true rfl) (Nat.le_of_ble_eq_true rfl) (by rw [hq]; rfl) rfl (by rw [hq]; rfl)
  · refine gw_i2l X dL_step_10 hk0 ?_
    refine gw_lastore X hao dL_step_11 ?_
    refine gw_goto (tgt := 27) X dL_step_12 rfl ?_
    refine gw_iconst (v := 0) X dL_step_27 rfl ?_
    exact gw_ireturn X hrt hlk dL_step_28 (Nat.le_of_ble_eq_true rfl) (Nat.le_of_ble_eq_true rfl) (by rw [h0]; rfl) rfl (by rw [if_pos h0])
theorem ok_L_equation (l : Launch) (hl : l.stackTraces = false) (D : Dd) (base b0 ao : Nat) (hb : b0 ≤ base) (hao : base + 681 ≤ ao) (M : Mm) (fo : Nat → Int64) (a1 : Int) (ha1 : i32 a1) (a2 : Int) (ha2 : i32 a2) (a3 : Int) (ha3 : i32 a3) (a4 : Int) (ha4 : i32 a4) (sz : Nat) (r : Int × Int × Mm) (ho : f_X11_equation a1 a2 a3 a4 M = some r) (hr : r.1 = 0 ∨ r.1 = 1 ∨ r.1 = 2 ∨ r.1 = 3) : Met l yL_equation (.codeWith yL_equation cL_equation 7 (some .int) [(0, 14, 17, 13), (0, 14, 21, 15), (0, 14, 25, 17)] :: LWL) (rmX 8 162 3 18) (PcL D base b0 ao M fo [.ref (base + 0), .int (Ii a1), .int (Ii a2), .int (Ii a3), .int (Ii a4), .ref ao] sz) (QcL D base ao (if r.1 = 1 then 1 else if r.1 = 2 then 2 else if r.1 = 3 then 3 else 0) r.2.2 (if r.1 = 0 then vp_updL fo 0 (Ll r.2.1) else fo) sz) 3 18 (FW base ao sz) := by
  refine Met_ofWH (hh := [(0, 14, 17, 13), (0, 14, 21, 15), (0, 14, 25, 17)]) (cc := cL_equation) (maxL := 7) (ret := some .int) (by decide +kernel) rfl ?_
  intro p e s m args below meth c s₁ B hml hv
  obtain ⟨rfl, rfl, hW, hO, hK, hN, hKX⟩ := hv
  have hts := atoms_spec (ws := .codeWith yL_equation cL_equation 7 (some .int) [(0, 14, 17, 13), (0, 14, 21, 15), (0, 14, 25, 17)] :: LWL) B.pre
  have htb : c.exceptionTable.toList = tableOf [(0, 14, 17, 13), (0, 14, 21, 15), (0, 14, 25, 17)] := vx_table (x := yL_equation) B (hts _ List.mem_cons_self)
  have hts : ∀ w ∈ LWL, w.before _ s = true := fun w hw => hts w (List.mem_cons_of_mem _ hw)
  have hrt := B.returns
  have hlk := B.notSynchronized
  have X : Cl_ p l s m _ c cL_equation D 7 b0 := ⟨B.exec, B.bytes, hml, findClass_of_methodNamed B.named, hts, hK, hN, hKX⟩
  have hl9 := lv_entry [.ref (base + 0), .int (Ii a1), .int (Ii a2), .int (Ii a3), .int (Ii a4), .ref ao] (n := 7) (Nat.le_of_ble_eq_true rfl)
  rw [lg_entry_eq]
  change lv_has _ 7 [(0, .ref (base + 0)), (1, .int (Ii a1)), (2, .int (Ii a2)), (3, .int (Ii a3)), (4, .int (Ii a4)), (5, .ref ao)] at hl9
  refine (?_ : Gw p l e (rmX 8 162 3 18) s m _ below meth c D base ao 7 0 0 (MQ below (QcL D base ao (if r.1 = 1 then 1 else if r.1 = 2 then 2 else if r.1 = 3 then 3 else 0) r.2.2 (if r.1 = 0 then vp_updL fo 0 (Ll r.2.1) else fo) s.heap.size) _ s 3 18 (FW base ao s.heap.size)) M fo 0 [(0, .ref (base + 0)), (1, .int (Ii a1)), (2, .int (Ii a2)), (3, .int (Ii a3)), (4, .int (Ii a4)), (5, .ref ao)] []) s.heap [] _ hW hO va_S.rf hl9
  refine gw_aload X dL_equation_0 5 rfl ?_
  refine gw_iconst (v := 0) X dL_equation_2 rfl ?_
  refine gw_aload_n X dL_equation_3 rfl 0 rfl ?_
  refine gw_iload_n X dL_equation_4 rfl 1 rfl ?_
  refine gw_iload_n X dL_equation_5 rfl 2 rfl ?_
  refine gw_iload_n X dL_equation_6 rfl 3 rfl ?_
  refine gw_iload X dL_equation_7 4 rfl ?_
  refine gw_call X hb hao (ok_X11_equation l hl D base b0 hb M a1 ha1 a2 ha2 a3 ha3 a4 ha4) ho dL_equation_9 ll23 ll24 ll25 lw19 lw778 cy_X11_equation ⟨Nat.le_of_ble_eq_true rfl, Nat.le_of_ble_eq_true rfl⟩ rfl rfl rfl (Nat.le_of_ble_eq_true rfl) ⟨Nat.le_of_ble_eq_true rfl, Nat.le_of_ble_eq_true rfl⟩ (fun hp => ?_) (fun h0 hk0 => ?_)
  · have hq : r.1 = 1 ∨ r.1 = 2 ∨ r.1 = 3 := by omega
    rcases hq with hq | hq | hq
    · refine ⟨[], ⟨0, 14, 17, 13⟩, [⟨0, 14, 21, 15⟩, ⟨0, 14, 25, 17⟩], exn 1, by rw [htb]; rfl, (fun z hz => by cases hz), by decide, by decide, hts _ (inL _ ll0), ?_, fun q9 => ?_⟩
      · rw [hq]; exact va_Nw.use rfl (hKX.1 (.castable (exn 1) (exn 1)) (by decide +kernel))
      · refine gw_astore (L' := [(6, .ref q9), (0, .ref (base + 0)), (1, .int (Ii a1)), (2, .int (Ii a2)), (3, .int (Ii a3)), (4, .int (Ii a4)), (5, .ref ao)]) X dL_equation_17 (by decide) rfl ?_
        refine gw_iconst (v := 1) X dL_equation_19 rfl ?_
        exact gw_ireturn X hrt hlk dL_equation_20 (Nat.le_of_ble_eq_true rfl) (Nat.le_of_ble_eq_true rfl) (by rw [hq]; rfl) rfl (by rw [hq]; rfl)
    · refine ⟨[⟨0, 14, 17, 13⟩], ⟨0, 14, 21, 15⟩, [⟨0, 14, 25, 17⟩], exn 2, by rw [htb]; rfl, (fun z hz => by
        simp only [List.mem_cons, List.not_mem_nil, or_false] at hz
        rcases hz with rfl
        · exact Or.inr ⟨by decide, exn 1, hts _ (inL _ ll0), by rw [hq]; exact hKX.2.2.2.2 (exn 2, exn 1) (by decide +kernel)⟩), by decide, by decide, hts _ (inL _ ll1), ?_, fun q9 => ?_⟩
      · rw [hq]; exact va_Nw.use rfl (hKX.1 (.castable (exn 2) (exn 2)) (by decide +kernel))
      · refine gw_astore (L' := [(6, .ref q9), (0, .ref (base + 0)), (1, .int (Ii a1)), (2, .int (Ii a2)), (3, .int (Ii a3)), (4, .int (Ii a4)), (5, .ref ao)]) X dL_equation_21 (by decide) rfl ?_
        refine gw_iconst (v := 2) X dL_equation_23 rfl ?_
        exact gw_ireturn X hrt hlk dL_equation_24 (Nat.le_of_ble_eq_true rfl) (Nat.le_of_ble_eq_true rfl) (by rw [hq]; rfl) rfl (by rw [hq]; rfl)
    · refine ⟨[⟨0, 14, 17, 13⟩, ⟨0, 14, 21, 15⟩], ⟨0, 14, 25, 17⟩, [], exn 3, by rw [htb]; rfl, (fun z hz => by
        simp only [List.mem_cons, List.not_mem_nil, or_false] at hz
        rcases hz with rfl | rfl
        · exact Or.inr ⟨by decide, exn 1, hts _ (inL _ ll0), by rw [hq]; exact hKX.2.2.2.2 (exn 3, exn 1) (by decide +kernel)⟩
        · exact Or.inr ⟨by decide, exn 2, hts _ (inL _ ll1), by rw [hq]; exact hKX.2.2.2.2 (exn 3, exn 2) (by decide +kernel)⟩), by decide, by decide, hts _ (inL _ ll2), ?_, fun q9 => ?_⟩
      · rw [hq]; exact va_Nw.use rfl (hKX.1 (.castable (exn 3) (exn 3)) (by decide +kernel))
      · refine gw_astore (L' := [(6, .ref q9), (0, .ref (base + 0)), (1, .int (Ii a1)), (2, .int (Ii a2)), (3, .int (Ii a3)), (4, .int (Ii a4)), (5, .ref ao)]) X dL_equation_25 (by decide) rfl ?_
        refine gw_iconst (v := 3) X dL_equation_27 rfl ?_
        exact gw_ireturn X hrt hlk dL_equation_28 (Nat.le_of_ble_eq_true rfl) (Nat.le_of_ble_eq_true rfl) (by rw [hq]; rfl) rfl (by rw [hq]; rfl)
  · refine gw_i2l X dL_equation_12 hk0 ?_
    refine gw_lastore X hao dL_equation_13 ?_
    refine gw_goto (tgt := 29) X dL_equation_14 rfl ?_
    refine gw_iconst (v := 0) X dL_equation_29 rfl ?_
    exact gw_ireturn X hrt hlk dL_equation_30 (Nat.le_of_ble_eq_true rfl) (Nat.le_of_ble_eq_true rfl) (by rw [h0]; rfl) rfl (by rw [if_pos h0])
theorem ok_L_toggle (l : Launch) (hl : l.stackTraces = false) (D : Dd) (base b0 ao : Nat) (hb : b0 ≤ base) (hao : base + 681 ≤ ao) (M : Mm) (fo : Nat → Int64) (a1 : Int) (ha1 : i32 a1) (sz : Nat) (r : Int × Int × Mm) (ho : f_X11_toggle a1 M = some r) (hr : r.1 = 0 ∨ r.1 = 1) : Met l yL_toggle (.codeWith yL_toggle cL_toggle 4 (some .int) [(0, 16, 19, 13)] :: LWL) (rmX 8 158 1 6) (PcL D base b0 ao M fo [.ref (base + 0), .int (Ii a1), .ref ao] sz) (QcL D base ao (if r.1 = 1 then 1 else 0) r.2.2 (if r.1 = 0 then vp_updL fo 0 (Ll r.2.1) else fo) sz) 1 6 (FW base ao sz) := by
  refine Met_ofWH (hh := [(0, 16, 19, 13)]) (cc := cL_toggle) (maxL := 4) (ret := some .int) (by decide +kernel) rfl ?_
  intro p e s m args below meth c s₁ B hml hv
  obtain ⟨rfl, rfl, hW, hO, hK, hN, hKX⟩ := hv
  have hts := atoms_spec (ws := .codeWith yL_toggle cL_toggle 4 (some .int) [(0, 16, 19, 13)] :: LWL) B.pre
  have htb : c.exceptionTable.toList = tableOf [(0, 16, 19, 13)] := vx_table (x := yL_toggle) B (hts _ List.mem_cons_self)
  have hts : ∀ w ∈ LWL, w.before _ s = true := fun w hw => hts w (List.mem_cons_of_mem _ hw)
  have hrt := B.returns
  have hlk := B.notSynchronized
  have X : Cl_ p l s m _ c cL_toggle D 4 b0 := ⟨B.exec, B.bytes, hml, findClass_of_methodNamed B.named, hts, hK, hN, hKX⟩
  have hl9 := lv_entry [.ref (base + 0), .int (Ii a1), .ref ao] (n := 4) (Nat.le_of_ble_eq_true rfl)
  rw [lg_entry_eq]
  change lv_has _ 4 [(0, .ref (base + 0)), (1, .int (Ii a1)), (2, .ref ao)] at hl9
  refine (?_ : Gw p l e (rmX 8 158 1 6) s m _ below meth c D base ao 4 0 0 (MQ below (QcL D base ao (if r.1 = 1 then 1 else 0) r.2.2 (if r.1 = 0 then vp_updL fo 0 (Ll r.2.1) else fo) s.heap.size) _ s 1 6 (FW base ao s.heap.size)) M fo 0 [(0, .ref (base + 0)), (1, .int (Ii a1)), (2, .ref ao)] []) s.heap [] _ hW hO va_S.rf hl9
  refine gw_aload_n X dL_toggle_0 rfl 2 rfl ?_
  refine gw_iconst (v := 0) X dL_toggle_1 rfl ?_
  refine gw_aload_n X dL_toggle_2 rfl 0 rfl ?_
  refine gw_iload_n X dL_toggle_3 rfl 1 rfl ?_
  refine gw_call X hb hao (ok_X11_toggle l hl D base b0 hb M a1 ha1) ho dL_toggle_4 ll27 ll28 ll29 lw19 lw782 cy_X11_toggle ⟨Nat.le_of_ble_eq_true rfl, Nat.le_of_ble_eq_true rfl⟩ rfl rfl rfl (Nat.le_of_ble_eq_true rfl) ⟨Nat.le_of_ble_eq_true rfl, Nat.le_of_ble_eq_true rfl⟩ (fun hp => ?_) (fun h0 hk0 => ?_)
  · have hq : r.1 = 1 := by omega
    refine ⟨[], ⟨0, 16, 19, 13⟩, [], exn 1, by rw [htb]; rfl, (fun z hz => by cases hz), by decide, by decide, hts _ (inL _ ll0), ?_, fun q9 => ?_⟩
    · rw [hq]; exact va_Nw.use rfl (hKX.1 (.castable (exn 1) (exn 1)) (by decide +kernel))
    · refine gw_astore_n (L' := [(3, .ref q9), (0, .ref (base + 0)), (1, .int (Ii a1)), (2, .ref ao)]) X dL_toggle_19 rfl (by decide) rfl ?_
      refine gw_iconst (v := 1) X dL_toggle_20 rfl ?_
      exact gw_ireturn X hrt hlk dL_toggle_21 (Nat.le_of_ble_eq_true rfl) (Nat.le_of_ble_eq_true rfl) (by rw [hq]; rfl) rfl (by rw [hq]; rfl)
  · refine gw_if_eq (tgt := 14) X dL_toggle_7 rfl (bo_i32 hk0) (fun hv9 => ?_) (fun hv8 => ?_)
    · refine gw_lconst (v := 0) X dL_toggle_14 rfl ?_
      refine gw_lastore X hao dL_toggle_15 ?_
      refine gw_goto (tgt := 22) X dL_toggle_16 rfl ?_
      refine gw_iconst (v := 0) X dL_toggle_22 rfl ?_
      exact gw_ireturn X hrt hlk dL_toggle_23 (Nat.le_of_ble_eq_true rfl) (Nat.le_of_ble_eq_true rfl) (by rw [h0]; rfl) rfl (by rw [if_pos h0]; rw [hv9])
    · have hv9 : r.2.1 = 1 := hk0.resolve_left hv8
      refine gw_lconst (v := 1) X dL_toggle_10 rfl ?_
      refine gw_goto (tgt := 15) X dL_toggle_11 rfl ?_
      refine gw_lastore X hao dL_toggle_15 ?_
      refine gw_goto (tgt := 22) X dL_toggle_16 rfl ?_
      refine gw_iconst (v := 0) X dL_toggle_22 rfl ?_
      exact gw_ireturn X hrt hlk dL_toggle_23 (Nat.le_of_ble_eq_true rfl) (Nat.le_of_ble_eq_true rfl) (by rw [h0]; rfl) rfl (by rw [if_pos h0]; rw [hv9])
theorem ok_L_insert (l : Launch) (hl : l.stackTraces = false) (D : Dd) (base b0 ao : Nat) (hb : b0 ≤ base) (hao : base + 681 ≤ ao) (M : Mm) (fo : Nat → Int64) (a1 : Int) (ha1 : i32 a1) (a2 : Int) (ha2 : i32 a2) (sz : Nat) (r : Int × Int × Mm) (ho : f_X11_insert a1 a2 M = some r) (hr : r.1 = 0 ∨ r.1 = 1 ∨ r.1 = 2 ∨ r.1 = 3) : Met l yL_insert (.codeWith yL_insert cL_insert 5 (some .int) [(0, 10, 13, 13), (0, 10, 17, 15), (0, 10, 21, 17)] :: LWL) (rmX 8 194 1 6) (PcL D base b0 ao M fo [.ref (base + 0), .int (Ii a1), .int (Ii a2), .ref ao] sz) (QcL D base ao (if r.1 = 1 then 1 else if r.1 = 2 then 2 else if r.1 = 3 then 3 else 0) r.2.2 (if r.1 = 0 then vp_updL fo 0 (Ll r.2.1) else fo) sz) 1 6 (FW base ao sz) := by
  refine Met_ofWH (hh := [(0, 10, 13, 13), (0, 10, 17, 15), (0, 10, 21, 17)]) (cc := cL_insert) (maxL := 5) (ret := some .int) (by decide +kernel) rfl ?_
  intro p e s m args below meth c s₁ B hml hv
  obtain ⟨rfl, rfl, hW, hO, hK, hN, hKX⟩ := hv
  have hts := atoms_spec (ws := .codeWith yL_insert cL_insert 5 (some .int) [(0, 10, 13, 13), (0, 10, 17, 15), (0, 10, 21, 17)] :: LWL) B.pre
  have htb : c.exceptionTable.toList = tableOf [(0, 10, 13, 13), (0, 10, 17, 15), (0, 10, 21, 17)] := vx_table (x := yL_insert) B (hts _ List.mem_cons_self)
  have hts : ∀ w ∈ LWL, w.before _ s = true := fun w hw => hts w (List.mem_cons_of_mem _ hw)
  have hrt := B.returns
  have hlk := B.notSynchronized
  have X : Cl_ p l s m _ c cL_insert D 5 b0 := ⟨B.exec, B.bytes, hml, findClass_of_methodNamed B.named, hts, hK, hN, hKX⟩
  have hl9 := lv_entry [.ref (base + 0), .int (Ii a1), .int (Ii a2), .ref ao] (n := 5) (Nat.le_of_ble_eq_true rfl)
  rw [lg_entry_eq]
  change lv_has _ 5 [(0, .ref (base + 0)), (1, .int (Ii a1)), (2, .int (Ii a2)), (3, .ref ao)] at hl9
  refine (?_ : Gw p l e (rmX 8 194 1 6) s m _ below meth c D base ao 5 0 0 (MQ below (QcL D base ao (if r.1 = 1 then 1 else if r.1 = 2 then 2 else if r.1 = 3 then 3 else 0) r.2.2 (if r.1 = 0 then vp_updL fo 0 (Ll r.2.1) else fo) s.heap.size) _ s 1 6 (FW base ao s.heap.size)) M fo 0 [(0, .ref (base + 0)), (1, .int (Ii a1)), (2, .int (Ii a2)), (3, .ref ao)] []) s.heap [] _ hW hO va_S.rf hl9
  refine gw_aload_n X dL_insert_0 rfl 3 rfl ?_
  refine gw_iconst (v := 0) X dL_insert_1 rfl ?_
  refine gw_aload_n X dL_insert_2 rfl 0 rfl ?_
  refine gw_iload_n X dL_insert_3 rfl 1 rfl ?_
  refine gw_iload_n X dL_insert_4 rfl 2 rfl ?_
  refine gw_call X hb hao (ok_X11_insert l hl D base b0 hb M a1 ha1 a2 ha2) ho dL_insert_5 ll31 ll32 ll33 lw19 lw819 cy_X11_insert ⟨Nat.le_of_ble_eq_true rfl, Nat.le_of_ble_eq_true rfl⟩ rfl rfl rfl (Nat.le_of_ble_eq_true rfl) ⟨Nat.le_of_ble_eq_true rfl, Nat.le_of_ble_eq_true rfl⟩ (fun hp => ?_) (fun h0 hk0 => ?_)
  · have hq : r.1 = 1 ∨ r.1 = 2 ∨ r.1 = 3 := by omega
    rcases hq with hq | hq | hq
    · refine ⟨[], ⟨0, 10, 13, 13⟩, [⟨0, 10, 17, 15⟩, ⟨0, 10, 21, 17⟩], exn 1, by rw [htb]; rfl, (fun z hz => by cases hz), by decide, by decide, hts _ (inL _ ll0), ?_, fun q9 => ?_⟩
      · rw [hq]; exact va_Nw.use rfl (hKX.1 (.castable (exn 1) (exn 1)) (by decide +kernel))
      · refine gw_astore (L' := [(4, .ref q9), (0, .ref (base + 0)), (1, .int (Ii a1)), (2, .int (Ii a2)), (3, .ref ao)]) X dL_insert_13 (by decide) rfl ?_
        refine gw_iconst (v := 1) X dL_insert_15 rfl ?_
        exact gw_ireturn X hrt hlk dL_insert_16 (Nat.le_of_ble_eq_true rfl) (Nat.le_of_ble_eq_true rfl) (by rw [hq]; rfl) rfl (by rw [hq]; rfl)
    · refine ⟨[⟨0, 10, 13, 13⟩], ⟨0, 10, 17, 15⟩, [⟨0, 10, 21, 17⟩], exn 2, by rw [htb]; rfl, (fun z hz => by
        simp only [List.mem_cons, List.not_mem_nil, or_false] at hz
        rcases hz with rfl
        · exact Or.inr ⟨by decide, exn 1, hts _ (inL _ ll0), by rw [hq]; exact hKX.2.2.2.2 (exn 2, exn 1) (by decide +kernel)⟩), by decide, by decide, hts _ (inL _ ll1), ?_, fun q9 => ?_⟩
      · rw [hq]; exact va_Nw.use rfl (hKX.1 (.castable (exn 2) (exn 2)) (by decide +kernel))
      · refine gw_astore (L' := [(4, .ref q9), (0, .ref (base + 0)), (1, .int (Ii a1)), (2, .int (Ii a2)), (3, .ref ao)]) X dL_insert_17 (by decide) rfl ?_
        refine gw_iconst (v := 2) X dL_insert_19 rfl ?_
        exact gw_ireturn X hrt hlk dL_insert_20 (Nat.le_of_ble_eq_true rfl) (Nat.le_of_ble_eq_true rfl) (by rw [hq]; rfl) rfl (by rw [hq]; rfl)
    · refine ⟨[⟨0, 10, 13, 13⟩, ⟨0, 10, 17, 15⟩], ⟨0, 10, 21, 17⟩, [], exn 3, by rw [htb]; rfl, (fun z hz => by
        simp only [List.mem_cons, List.not_mem_nil, or_false] at hz
        rcases hz with rfl | rfl
        · exact Or.inr ⟨by decide, exn 1, hts _ (inL _ ll0), by rw [hq]; exact hKX.2.2.2.2 (exn 3, exn 1) (by decide +kernel)⟩
        · exact Or.inr ⟨by decide, exn 2, hts _ (inL _ ll1), by rw [hq]; exact hKX.2.2.2.2 (exn 3, exn 2) (by decide +kernel)⟩), by decide, by decide, hts _ (inL _ ll2), ?_, fun q9 => ?_⟩
      · rw [hq]; exact va_Nw.use rfl (hKX.1 (.castable (exn 3) (exn 3)) (by decide +kernel))
      · refine gw_astore (L' := [(4, .ref q9), (0, .ref (base + 0)), (1, .int (Ii a1)), (2, .int (Ii a2)), (3, .ref ao)]) X dL_insert_21 (by decide) rfl ?_
        refine gw_iconst (v := 3) X dL_insert_23 rfl ?_
        exact gw_ireturn X hrt hlk dL_insert_24 (Nat.le_of_ble_eq_true rfl) (Nat.le_of_ble_eq_true rfl) (by rw [hq]; rfl) rfl (by rw [hq]; rfl)
  · refine gw_i2l X dL_insert_8 hk0 ?_
    refine gw_lastore X hao dL_insert_9 ?_
    refine gw_goto (tgt := 25) X dL_insert_10 rfl ?_
    refine gw_iconst (v := 0) X dL_insert_25 rfl ?_
    exact gw_ireturn X hrt hlk dL_insert_26 (Nat.le_of_ble_eq_true rfl) (Nat.le_of_ble_eq_true rfl) (by rw [h0]; rfl) rfl (by rw [if_pos h0])
theorem ok_L_delete (l : Launch) (hl : l.stackTraces = false) (D : Dd) (base b0 ao : Nat) (hb : b0 ≤ base) (hao : base + 681 ≤ ao) (M : Mm) (fo : Nat → Int64) (a1 : Int) (ha1 : i32 a1) (sz : Nat) (r : Int × Int × Mm) (ho : f_X11_delete a1 M = some r) (hr : r.1 = 0 ∨ r.1 = 1 ∨ r.1 = 3) : Met l yL_delete (.codeWith yL_delete cL_delete 4 (some .int) [(0, 9, 12, 13), (0, 9, 15, 17)] :: LWL) (rmX 8 193 1 6) (PcL D base b0 ao M fo [.ref (base + 0), .int (Ii a1), .ref ao] sz) (QcL D base ao (if r.1 = 1 then 1 else if r.1 = 3 then 2 else 0) r.2.2 (if r.1 = 0 then vp_updL fo 0 (Ll r.2.1) else fo) sz) 1 6 (FW base ao sz) := by
  refine Met_ofWH (hh := [(0, 9, 12, 13), (0, 9, 15, 17)]) (cc := cL_delete) (maxL := 4) (ret := some .int) (by decide +kernel) rfl ?_
  intro p e s m args below meth c s₁ B hml hv
  obtain ⟨rfl, rfl, hW, hO, hK, hN, hKX⟩ := hv
  have hts := atoms_spec (ws := .codeWith yL_delete cL_delete 4 (some .int) [(0, 9, 12, 13), (0, 9, 15, 17)] :: LWL) B.pre
  have htb : c.exceptionTable.toList = tableOf [(0, 9, 12, 13), (0, 9, 15, 17)] := vx_table (x := yL_delete) B (hts _ List.mem_cons_self)
  have hts : ∀ w ∈ LWL, w.before _ s = true := fun w hw => hts w (List.mem_cons_of_mem _ hw)
  have hrt := B.returns
  have hlk := B.notSynchronized
  have X : Cl_ p l s m _ c cL_delete D 4 b0 := ⟨B.exec, B.bytes, hml, findClass_of_methodNamed B.named, hts, hK, hN, hKX⟩
  have hl9 := lv_entry [.ref (base + 0), .int (Ii a1), .ref ao] (n := 4) (Nat.le_of_ble_eq_true rfl)
  rw [lg_entry_eq]
  change lv_has _ 4 [(0, .ref (base + 0)), (1, .int (Ii a1)), (2, .ref ao)] at hl9
  refine (?_ : Gw p l e (rmX 8 193 1 6) s m _ below meth c D base ao 4 0 0 (MQ below (QcL D base ao (if r.1 = 1 then 1 else if r.1 = 3 then 2 else 0) r.2.2 (if r.1 = 0 then vp_updL fo 0 (Ll r.2.1) else fo) s.heap.size) _ s 1 6 (FW base ao s.heap.size)) M fo 0 [(0, .ref (base + 0)), (1, .int (Ii a1)), (2, .ref ao)] []) s.heap [] _ hW hO va_S.rf hl9
  refine gw_aload_n X dL_delete_0 rfl 2 rfl ?_
  refine gw_iconst (v := 0) X dL_delete_1 rfl ?_
  refine gw_aload_n X dL_delete_2 rfl 0 rfl ?_
  refine gw_iload_n X dL_delete_3 rfl 1 rfl ?_
  refine gw_call X hb hao (ok_X11_delete l hl D base b0 hb M a1 ha1) ho dL_delete_4 ll35 ll36 ll37 lw19 lw823 cy_X11_delete ⟨Nat.le_of_ble_eq_true rfl, Nat.le_of_ble_eq_true rfl⟩ rfl rfl rfl (Nat.le_of_ble_eq_true rfl) ⟨Nat.le_of_ble_eq_true rfl, Nat.le_of_ble_eq_true rfl⟩ (fun hp => ?_) (fun h0 hk0 => ?_)
  · have hq : r.1 = 1 ∨ r.1 = 3 := by omega
    rcases hq with hq | hq
    · refine ⟨[], ⟨0, 9, 12, 13⟩, [⟨0, 9, 15, 17⟩], exn 1, by rw [htb]; rfl, (fun z hz => by cases hz), by decide, by decide, hts _ (inL _ ll0), ?_, fun q9 => ?_⟩
      · rw [hq]; exact va_Nw.use rfl (hKX.1 (.castable (exn 1) (exn 1)) (by decide +kernel))
      · refine gw_astore_n (L' := [(3, .ref q9), (0, .ref (base + 0)), (1, .int (Ii a1)), (2, .ref ao)]) X dL_delete_12 rfl (by decide) rfl ?_
        refine gw_iconst (v := 1) X dL_delete_13 rfl ?_
        exact gw_ireturn X hrt hlk dL_delete_14 (Nat.le_of_ble_eq_true rfl) (Nat.le_of_ble_eq_true rfl) (by rw [hq]; rfl) rfl (by rw [hq]; rfl)
    · refine ⟨[⟨0, 9, 12, 13⟩], ⟨0, 9, 15, 17⟩, [], exn 3, by rw [htb]; rfl, (fun z hz => by
        simp only [List.mem_cons, List.not_mem_nil, or_false] at hz
        rcases hz with rfl
        · exact Or.inr ⟨by decide, exn 1, hts _ (inL _ ll0), by rw [hq]; exact hKX.2.2.2.2 (exn 3, exn 1) (by decide +kernel)⟩), by decide, by decide, hts _ (inL _ ll2), ?_, fun q9 => ?_⟩
      · rw [hq]; exact va_Nw.use rfl (hKX.1 (.castable (exn 3) (exn 3)) (by decide +kernel))
      · refine gw_astore_n (L' := [(3, .ref q9), (0, .ref (base + 0)), (1, .int (Ii a1)), (2, .ref ao)]) X dL_delete_15 rfl (by decide) rfl ?_
        refine gw_iconst (v := 2) X dL_delete_16 rfl ?_
        exact gw_ireturn X hrt hlk dL_delete_17 (Nat.le_of_ble_eq_true rfl) (Nat.le_of_ble_eq_true rfl) (by rw [hq]; rfl) rfl (by rw [hq]; rfl)
  · refine gw_i2l X dL_delete_7 hk0 ?_
    refine gw_lastore X hao dL_delete_8 ?_
    refine gw_goto (tgt := 18) X dL_delete_9 rfl ?_
    refine gw_iconst (v := 0) X dL_delete_18 rfl ?_
    exact gw_ireturn X hrt hlk dL_delete_19 (Nat.le_of_ble_eq_true rfl) (Nat.le_of_ble_eq_true rfl) (by rw [h0]; rfl) rfl (by rw [if_pos h0])
theorem ok_L_read (l : Launch) (hl : l.stackTraces = false) (D : Dd) (base b0 ao : Nat) (hb : b0 ≤ base) (hao : base + 681 ≤ ao) (M : Mm) (fo : Nat → Int64) (sz : Nat) (r : Int × Int × Mm) (ho : f_X11_read M = some r) (hr : r.1 = 0 ∨ r.1 = 3) : Met l yL_read (.codeWith yL_read cL_read 3 (some .int) [(0, 8, 11, 17)] :: LWL) (rmX 8 192 1 6) (PcL D base b0 ao M fo [.ref (base + 0), .ref ao] sz) (QcL D base ao (if r.1 = 3 then 1 else 0) r.2.2 (if r.1 = 0 then vp_updL fo 0 (Ll r.2.1) else fo) sz) 1 6 (FW base ao sz) := by
  refine Met_ofWH (hh := [(0, 8, 11, 17)]) (cc := cL_read) (maxL := 3) (ret := some .int) (by decide +kernel) rfl ?_
  intro p e s m args below meth c s₁ B hml hv
  obtain ⟨rfl, rfl, hW, hO, hK, hN, hKX⟩ := hv
  have hts := atoms_spec (ws := .codeWith yL_read cL_read 3 (some .int) [(0, 8, 11, 17)] :: LWL) B.pre
  have htb : c.exceptionTable.toList = tableOf [(0, 8, 11, 17)] := vx_table (x := yL_read) B (hts _ List.mem_cons_self)
  have hts : ∀ w ∈ LWL, w.before _ s = true := fun w hw => hts w (List.mem_cons_of_mem _ hw)
  have hrt := B.returns
  have hlk := B.notSynchronized
  have X : Cl_ p l s m _ c cL_read D 3 b0 := ⟨B.exec, B.bytes, hml, findClass_of_methodNamed B.named, hts, hK, hN, hKX⟩
  have hl9 := lv_entry [.ref (base + 0), .ref ao] (n := 3) (Nat.le_of_ble_eq_true rfl)
  rw [lg_entry_eq]
  change lv_has _ 3 [(0, .ref (base + 0)), (1, .ref ao)] at hl9
  refine (?_ : Gw p l e (rmX 8 192 1 6) s m _ below meth c D base ao 3 0 0 (MQ below (QcL D base ao (if r.1 = 3 then 1 else 0) r.2.2 (if r.1 = 0 then vp_updL fo 0 (Ll r.2.1) else fo) s.heap.size) _ s 1 6 (FW base ao s.heap.size)) M fo 0 [(0, .ref (base + 0)), (1, .ref ao)] []) s.heap [] _ hW hO va_S.rf hl9
  refine gw_aload_n X dL_read_0 rfl 1 rfl ?_
  refine gw_iconst (v := 0) X dL_read_1 rfl ?_
  refine gw_aload_n X dL_read_2 rfl 0 rfl ?_
  refine gw_call X hb hao (ok_X11_read l hl D base b0 hb M) ho dL_read_3 ll39 ll40 ll41 lw19 lw824 cy_X11_read ⟨Nat.le_of_ble_eq_true rfl, Nat.le_of_ble_eq_true rfl⟩ rfl rfl rfl (Nat.le_of_ble_eq_true rfl) ⟨Nat.le_of_ble_eq_true rfl, Nat.le_of_ble_eq_true rfl⟩ (fun hp => ?_) (fun h0 hk0 => ?_)
  · have hq : r.1 = 3 := by omega
    refine ⟨[], ⟨0, 8, 11, 17⟩, [], exn 3, by rw [htb]; rfl, (fun z hz => by cases hz), by decide, by decide, hts _ (inL _ ll2), ?_, fun q9 => ?_⟩
    · rw [hq]; exact va_Nw.use rfl (hKX.1 (.castable (exn 3) (exn 3)) (by decide +kernel))
    · refine gw_astore_n (L' := [(2, .ref q9), (0, .ref (base + 0)), (1, .ref ao)]) X dL_read_11 rfl (by decide) rfl ?_
      refine gw_iconst (v := 1) X dL_read_12 rfl ?_
      exact gw_ireturn X hrt hlk dL_read_13 (Nat.le_of_ble_eq_true rfl) (Nat.le_of_ble_eq_true rfl) (by rw [hq]; rfl) rfl (by rw [hq]; rfl)
  · refine gw_i2l X dL_read_6 hk0 ?_
    refine gw_lastore X hao dL_read_7 ?_
    refine gw_goto (tgt := 14) X dL_read_8 rfl ?_
    refine gw_iconst (v := 0) X dL_read_14 rfl ?_
    exact gw_ireturn X hrt hlk dL_read_15 (Nat.le_of_ble_eq_true rfl) (Nat.le_of_ble_eq_true rfl) (by rw [h0]; rfl) rfl (by rw [if_pos h0])
theorem ok_L_node (l : Launch) (hl : l.stackTraces = false) (D : Dd) (base b0 ao : Nat) (hb : b0 ≤ base) (hao : base + 681 ≤ ao) (M : Mm) (fo : Nat → Int64) (a1 : Int) (ha1 : i32 a1) (sz : Nat) (r : Int × Int × Mm) (ho : f_X11_node a1 M = some r) (hr : r.1 = 0 ∨ r.1 = 1) : Met l yL_node (.codeWith yL_node cL_node 4 (some .int) [(0, 9, 12, 13)] :: LWL) (rmX 8 125 1 6) (PcL D base b0 ao M fo [.ref (base + 0), .int (Ii a1), .ref ao] sz) (QcL D base ao (if r.1 = 1 then 1 else 0) r.2.2 (if r.1 = 0 then vp_updL fo 0 (Ll r.2.1) else fo) sz) 1 6 (FW base ao sz) := by
  refine Met_ofWH (hh := [(0, 9, 12, 13)]) (cc := cL_node) (maxL := 4) (ret := some .int) (by decide +kernel) rfl ?_
  intro p e s m args below meth c s₁ B hml hv
  obtain ⟨rfl, rfl, hW, hO, hK, hN, hKX⟩ := hv
  have hts := atoms_spec (ws := .codeWith yL_node cL_node 4 (some .int) [(0, 9, 12, 13)] :: LWL) B.pre
  have htb : c.exceptionTable.toList = tableOf [(0, 9, 12, 13)] := vx_table (x := yL_node) B (hts _ List.mem_cons_self)
  have hts : ∀ w ∈ LWL, w.before _ s = true := fun w hw => hts w (List.mem_cons_of_mem _ hw)
  have hrt := B.returns
  have hlk := B.notSynchronized
  have X : Cl_ p l s m _ c cL_node D 4 b0 := ⟨B.exec, B.bytes, hml, findClass_of_methodNamed B.named, hts, hK, hN, hKX⟩
  have hl9 := lv_entry [.ref (base + 0), .int (Ii a1), .ref ao] (n := 4) (Nat.le_of_ble_eq_true rfl)
  rw [lg_entry_eq]
  change lv_has _ 4 [(0, .ref (base + 0)), (1, .int (Ii a1)), (2, .ref ao)] at hl9
  refine (?_ : Gw p l e (rmX 8 125 1 6) s m _ below meth c D base ao 4 0 0 (MQ below (QcL D base ao (if r.1 = 1 then 1 else 0) r.2.2 (if r.1 = 0 then vp_updL fo 0 (Ll r.2.1) else fo) s.heap.size) _ s 1 6 (FW base ao s.heap.size)) M fo 0 [(0, .ref (base + 0)), (1, .int (Ii a1)), (2, .ref ao)] []) s.heap [] _ hW hO va_S.rf hl9
  refine gw_aload_n X dL_node_0 rfl 2 rfl ?_
  refine gw_iconst (v := 0) X dL_node_1 rfl ?_
  refine gw_aload_n X dL_node_2 rfl 0 rfl ?_
  refine gw_iload_n X dL_node_3 rfl 1 rfl ?_
  refine gw_call X hb hao (ok_X11_node l hl D base b0 hb M a1 ha1) ho dL_node_4 ll43 ll44 ll45 lw19 lw833 cy_X11_node ⟨Nat.le_of_ble_eq_true rfl, Nat.le_of_ble_eq_true rfl⟩ rfl rfl rfl (Nat.le_of_ble_eq_true rfl) ⟨Nat.le_of_ble_eq_true rfl, Nat.le_of_ble_eq_true rfl⟩ (fun hp => ?_) (fun h0 hk0 => ?_)
  · have hq : r.1 = 1 := by omega
    refine ⟨[], ⟨0, 9, 12, 13⟩, [], exn 1, by rw [htb]; rfl, (fun z hz => by cases hz), by decide, by decide, hts _ (inL _ ll0), ?_, fun q9 => ?_⟩
    · rw [hq]; exact va_Nw.use rfl (hKX.1 (.castable (exn 1) (exn 1)) (by decide +kernel))
    · refine gw_astore_n (L' := [(3, .ref q9), (0, .ref (base + 0)), (1, .int (Ii a1)), (2, .ref ao)]) X dL_node_12 rfl (by decide) rfl ?_
      refine gw_iconst (v := 1) X dL_node_13 rfl ?_
      exact gw_ireturn X hrt hlk dL_node_14 (Nat.le_of_ble_eq_true rfl) (Nat.le_of_ble_eq_true rfl) (by rw [hq]; rfl) rfl (by rw [hq]; rfl)
  · refine gw_i2l X dL_node_7 hk0 ?_
    refine gw_lastore X hao dL_node_8 ?_
    refine gw_goto (tgt := 15) X dL_node_9 rfl ?_
    refine gw_iconst (v := 0) X dL_node_15 rfl ?_
    exact gw_ireturn X hrt hlk dL_node_16 (Nat.le_of_ble_eq_true rfl) (Nat.le_of_ble_eq_true rfl) (by rw [h0]; rfl) rfl (by rw [if_pos h0])
theorem ok_L_rewrite (l : Launch) (hl : l.stackTraces = false) (D : Dd) (base b0 ao : Nat) (hb : b0 ≤ base) (hao : base + 681 ≤ ao) (M : Mm) (fo : Nat → Int64) (a1 : Int) (ha1 : i32 a1) (sz : Nat) (r : Int × Int × Mm) (ho : f_X11_rewrite a1 M = some r) (hr : r.1 = 0 ∨ r.1 = 1) : Met l yL_rewrite (.codeWith yL_rewrite cL_rewrite 4 (some .int) [(0, 9, 12, 13)] :: LWL) (rmX 8 193 1 6) (PcL D base b0 ao M fo [.ref (base + 0), .int (Ii a1), .ref ao] sz) (QcL D base ao (if r.1 = 1 then 1 else 0) r.2.2 (if r.1 = 0 then vp_updL fo 0 (Ll r.2.1) else fo) sz) 1 6 (FW base ao sz) := by
  refine Met_ofWH (hh := [(0, 9, 12, 13)]) (cc := cL_rewrite) (maxL := 4) (ret := some .int) (by decide +kernel) rfl ?_
  intro p e s m args below meth c s₁ B hml hv
  obtain ⟨rfl, rfl, hW, hO, hK, hN, hKX⟩ := hv
  have hts := atoms_spec (ws := .codeWith yL_rewrite cL_rewrite 4 (some .int) [(0, 9, 12, 13)] :: LWL) B.pre
  have htb : c.exceptionTable.toList = tableOf [(0, 9, 12, 13)] := vx_table (x := yL_rewrite) B (hts _ List.mem_cons_self)
  have hts : ∀ w ∈ LWL, w.before _ s = true := fun w hw => hts w (List.mem_cons_of_mem _ hw)
  have hrt := B.returns
  have hlk := B.notSynchronized
  have X : Cl_ p l s m _ c cL_rewrite D 4 b0 := ⟨B.exec, B.bytes, hml, findClass_of_methodNamed B.named, hts, hK, hN, hKX⟩
  have hl9 := lv_entry [.ref (base + 0), .int (Ii a1), .ref ao] (n := 4) (Nat.le_of_ble_eq_true rfl)
  rw [lg_entry_eq]
  change lv_has _ 4 [(0, .ref (base + 0)), (1, .int (Ii a1)), (2, .ref ao)] at hl9
  refine (?_ : Gw p l e (rmX 8 193 1 6) s m _ below meth c D base ao 4 0 0 (MQ below (QcL D base ao (if r.1 = 1 then 1 else 0) r.2.2 (if r.1 = 0 then vp_updL fo 0 (Ll r.2.1) else fo) s.heap.size) _ s 1 6 (FW base ao s.heap.size)) M fo 0 [(0, .ref (base + 0)), (1, .int (Ii a1)), (2, .ref ao)] []) s.heap [] _ hW hO va_S.rf hl9
  refine gw_aload_n X dL_rewrite_0 rfl 2 rfl ?_
  refine gw_iconst (v := 0) X dL_rewrite_1 rfl ?_
  refine gw_aload_n X dL_rewrite_2 rfl 0 rfl ?_
  refine gw_iload_n X dL_rewrite_3 rfl 1 rfl ?_
  refine gw_call X hb hao (ok_X11_rewrite l hl D base b0 hb M a1 ha1) ho dL_rewrite_4 ll47 ll48 ll49 lw19 lw851 cy_X11_rewrite ⟨Nat.le_of_ble_eq_true rfl, Nat.le_of_ble_eq_true rfl⟩ rfl rfl rfl (Nat.le_of_ble_eq_true rfl) ⟨Nat.le_of_ble_eq_true rfl, Nat.le_of_ble_eq_true rfl⟩ (fun hp => ?_) (fun h0 hk0 => ?_)
  · have hq : r.1 = 1 := by omega
    refine ⟨[], ⟨0, 9, 12, 13⟩, [], exn 1, by rw [htb]; rfl, (fun z hz => by cases hz), by decide, by decide, hts _ (inL _ ll0), ?_, fun q9 => ?_⟩
    · rw [hq]; exact va_Nw.use rfl (hKX.1 (.castable (exn 1) (exn 1)) (by decide +kernel))
    · refine gw_astore_n (L' := [(3, .ref q9), (0, .ref (base + 0)), (1, .int (Ii a1)), (2, .ref ao)]) X dL_rewrite_12 rfl (by decide) rfl ?_
      refine gw_iconst (v := 1) X dL_rewrite_13 rfl ?_
      exact gw_ireturn X hrt hlk dL_rewrite_14 (Nat.le_of_ble_eq_true rfl) (Nat.le_of_ble_eq_true rfl) (by rw [hq]; rfl) rfl (by rw [hq]; rfl)
  · refine gw_i2l X dL_rewrite_7 hk0 ?_
    refine gw_lastore X hao dL_rewrite_8 ?_
    refine gw_goto (tgt := 15) X dL_rewrite_9 rfl ?_
    refine gw_iconst (v := 0) X dL_rewrite_15 rfl ?_
    exact gw_ireturn X hrt hlk dL_rewrite_16 (Nat.le_of_ble_eq_true rfl) (Nat.le_of_ble_eq_true rfl) (by rw [h0]; rfl) rfl (by rw [if_pos h0])
theorem ok_L_value (l : Launch) (hl : l.stackTraces = false) (D : Dd) (base b0 ao : Nat) (hb : b0 ≤ base) (hao : base + 681 ≤ ao) (M : Mm) (fo : Nat → Int64) (a1 : Int) (ha1 : i32 a1) (a2 : Int) (ha2 : i32 a2) (sz : Nat) (r : Int × Int × Mm) (ho : f_X11_value a1 a2 M = some r) (hr : r.1 = 0 ∨ r.1 = 1) : Met l yL_value (.codeWith yL_value cL_value 5 (some .int) [(0, 10, 13, 13)] :: LWL) (rmX 8 191 2 12) (PcL D base b0 ao M fo [.ref (base + 0), .int (Ii a1), .int (Ii a2), .ref ao] sz) (QcL D base ao (if r.1 = 1 then 1 else 0) r.2.2 (if r.1 = 0 then vp_updL fo 0 (Ll r.2.1) else fo) sz) 2 12 (FW base ao sz) := by
  refine Met_ofWH (hh := [(0, 10, 13, 13)]) (cc := cL_value) (maxL := 5) (ret := some .int) (by decide +kernel) rfl ?_
  intro p e s m args below meth c s₁ B hml hv
  obtain ⟨rfl, rfl, hW, hO, hK, hN, hKX⟩ := hv
  have hts := atoms_spec (ws := .codeWith yL_value cL_value 5 (some .int) [(0, 10, 13, 13)] :: LWL) B.pre
  have htb : c.exceptionTable.toList = tableOf [(0, 10, 13, 13)] := vx_table (x := yL_value) B (hts _ List.mem_cons_self)
  have hts : ∀ w ∈ LWL, w.before _ s = true := fun w hw => hts w (List.mem_cons_of_mem _ hw)
  have hrt := B.returns
  have hlk := B.notSynchronized
  have X : Cl_ p l s m _ c cL_value D 5 b0 := ⟨B.exec, B.bytes, hml, findClass_of_methodNamed B.named, hts, hK, hN, hKX⟩
  have hl9 := lv_entry [.ref (base + 0), .int (Ii a1), .int (Ii a2), .ref ao] (n := 5) (Nat.le_of_ble_eq_true rfl)
  rw [lg_entry_eq]
  change lv_has _ 5 [(0, .ref (base + 0)), (1, .int (Ii a1)), (2, .int (Ii a2)), (3, .ref ao)] at hl9
  refine (?_ : Gw p l e (rmX 8 191 2 12) s m _ below meth c D base ao 5 0 0 (MQ below (QcL D base ao (if r.1 = 1 then 1 else 0) r.2.2 (if r.1 = 0 then vp_updL fo 0 (Ll r.2.1) else fo) s.heap.size) _ s 2 12 (FW base ao s.heap.size)) M fo 0 [(0, .ref (base + 0)), (1, .int (Ii a1)), (2, .int (Ii a2)), (3, .ref ao)] []) s.heap [] _ hW hO va_S.rf hl9
  refine gw_aload_n X dL_value_0 rfl 3 rfl ?_
  refine gw_iconst (v := 0) X dL_value_1 rfl ?_
  refine gw_aload_n X dL_value_2 rfl 0 rfl ?_
  refine gw_iload_n X dL_value_3 rfl 1 rfl ?_
  refine gw_iload_n X dL_value_4 rfl 2 rfl ?_
  refine gw_call X hb hao (ok_X11_value l hl D base b0 hb M a1 ha1 a2 ha2) ho dL_value_5 ll51 ll52 ll53 lw19 lw852 cy_X11_value ⟨Nat.le_of_ble_eq_true rfl, Nat.le_of_ble_eq_true rfl⟩ rfl rfl rfl (Nat.le_of_ble_eq_true rfl) ⟨Nat.le_of_ble_eq_true rfl, Nat.le_of_ble_eq_true rfl⟩ (fun hp => ?_) (fun h0 hk0 => ?_)
  · have hq : r.1 = 1 := by omega
    refine ⟨[], ⟨0, 10, 13, 13⟩, [], exn 1, by rw [htb]; rfl, (fun z hz => by cases hz), by decide, by decide, hts _ (inL _ ll0), ?_, fun q9 => ?_⟩
    · rw [hq]; exact va_Nw.use rfl (hKX.1 (.castable (exn 1) (exn 1)) (by decide +kernel))
    · refine gw_astore (L' := [(4, .ref q9), (0, .ref (base + 0)), (1, .int (Ii a1)), (2, .int (Ii a2)), (3, .ref ao)]) X dL_value_13 (by decide) rfl ?_
      refine gw_iconst (v := 1) X dL_value_15 rfl ?_
      exact gw_ireturn X hrt hlk dL_value_16 (Nat.le_of_ble_eq_true rfl) (Nat.le_of_ble_eq_true rfl) (by rw [hq]; rfl) rfl (by rw [hq]; rfl)
  · refine gw_i2l X dL_value_8 hk0 ?_
    refine gw_lastore X hao dL_value_9 ?_
    refine gw_goto (tgt := 17) X dL_value_10 rfl ?_
    refine gw_iconst (v := 0) X dL_value_17 rfl ?_
    exact gw_ireturn X hrt hlk dL_value_18 (Nat.le_of_ble_eq_true rfl) (Nat.le_of_ble_eq_true rfl) (by rw [h0]; rfl) rfl (by rw [if_pos h0])
theorem ok_L_valueAnew (l : Launch) (hl : l.stackTraces = false) (D : Dd) (base b0 ao : Nat) (hb : b0 ≤ base) (hao : base + 681 ≤ ao) (M : Mm) (fo : Nat → Int64) (a1 : Int) (ha1 : i32 a1) (a2 : Int) (ha2 : i32 a2) (sz : Nat) (r : Int × Int × Mm) (ho : f_X11_valueAnew a1 a2 M = some r) (hr : r.1 = 0 ∨ r.1 = 1) : Met l yL_valueAnew (.codeWith yL_valueAnew cL_valueAnew 5 (some .int) [(0, 10, 13, 13)] :: LWL) (rmX 8 191 2 12) (PcL D base b0 ao M fo [.ref (base + 0), .int (Ii a1), .int (Ii a2), .ref ao] sz) (QcL D base ao (if r.1 = 1 then 1 else 0) r.2.2 (if r.1 = 0 then vp_updL fo 0 (Ll r.2.1) else fo) sz) 2 12 (FW base ao sz) := by
  refine Met_ofWH (hh := [(0, 10, 13, 13)]) (cc := cL_valueAnew) (maxL := 5) (ret := some .int) (by decide +kernel) rfl ?_
  intro p e s m args below meth c s₁ B hml hv
  obtain ⟨rfl, rfl, hW, hO, hK, hN, hKX⟩ := hv
  have hts := atoms_spec (ws := .codeWith yL_valueAnew cL_valueAnew 5 (some .int) [(0, 10, 13, 13)] :: LWL) B.pre
  have htb : c.exceptionTable.toList = tableOf [(0, 10, 13, 13)] := vx_table (x := yL_valueAnew) B (hts _ List.mem_cons_self)
  have hts : ∀ w ∈ LWL, w.before _ s = true := fun w hw => hts w (List.mem_cons_of_mem _ hw)
  have hrt := B.returns
  have hlk := B.notSynchronized
  have X : Cl_ p l s m _ c cL_valueAnew D 5 b0 := ⟨B.exec, B.bytes, hml, findClass_of_methodNamed B.named, hts, hK, hN, hKX⟩
  have hl9 := lv_entry [.ref (base + 0), .int (Ii a1), .int (Ii a2), .ref ao] (n := 5) (Nat.le_of_ble_eq_true rfl)
  rw [lg_entry_eq]
  change lv_has _ 5 [(0, .ref (base + 0)), (1, .int (Ii a1)), (2, .int (Ii a2)), (3, .ref ao)] at hl9
  refine (?_ : Gw p l e (rmX 8 191 2 12) s m _ below meth c D base ao 5 0 0 (MQ below (QcL D base ao (if r.1 = 1 then 1 else 0) r.2.2 (if r.1 = 0 then vp_updL fo 0 (Ll r.2.1) else fo) s.heap.size) _ s 2 12 (FW base ao s.heap.size)) M fo 0 [(0, .ref (base + 0)), (1, .int (Ii a1)), (2, .int (Ii a2)), (3, .ref ao)] []) s.heap [] _ hW hO va_S.rf hl9
  refine gw_aload_n X dL_valueAnew_0 rfl 3 rfl ?_
  refine gw_iconst (v := 0) X dL_valueAnew_1 rfl ?_
  refine gw_aload_n X dL_valueAnew_2 rfl 0 rfl ?_
  refine gw_iload_n X dL_valueAnew_3 rfl 1 rfl ?_
  refine gw_iload_n X dL_valueAnew_4 rfl 2 rfl ?_
  refine gw_call X hb hao (ok_X11_valueAnew l hl D base b0 hb M a1 ha1 a2 ha2) ho dL_valueAnew_5 ll55 ll56 ll57 lw19 lw853 cy_X11_valueAnew ⟨Nat.le_of_ble_eq_true rfl, Nat.le_of_ble_eq_true rfl⟩ rfl rfl rfl (Nat.le_of_ble_eq_true rfl) ⟨Nat.le_of_ble_eq_true rfl, Nat.le_of_ble_eq_true rfl⟩ (fun hp => ?_) (fun h0 hk0 => ?_)
  · have hq : r.1 = 1 := by omega
    refine ⟨[], ⟨0, 10, 13, 13⟩, [], exn 1, by rw [htb]; rfl, (fun z hz => by cases hz), by decide, by decide, hts _ (inL _ ll0), ?_, fun q9 => ?_⟩
    · rw [hq]; exact va_Nw.use rfl (hKX.1 (.castable (exn 1) (exn 1)) (by decide +kernel))
    · refine gw_astore (L' := [(4, .ref q9), (0, .ref (base + 0)), (1, .int (Ii a1)), (2, .int (Ii a2)), (3, .ref ao)]) X dL_valueAnew_13 (by decide) rfl ?_
      refine gw_iconst (v := 1) X dL_valueAnew_15 rfl ?_
      exact gw_ireturn X hrt hlk dL_valueAnew_16 (Nat.le_of_ble_eq_true rfl) (Nat.le_of_ble_eq_true rfl) (by rw [hq]; rfl) rfl (by rw [hq]; rfl)
  · refine gw_i2l X dL_valueAnew_8 hk0 ?_
    refine gw_lastore X hao dL_valueAnew_9 ?_
    refine gw_goto (tgt := 17) X dL_valueAnew_10 rfl ?_
    refine gw_iconst (v := 0) X dL_valueAnew_17 rfl ?_
    exact gw_ireturn X hrt hlk dL_valueAnew_18 (Nat.le_of_ble_eq_true rfl) (Nat.le_of_ble_eq_true rfl) (by rw [h0]; rfl) rfl (by rw [if_pos h0])
theorem ok_L_isKept (l : Launch) (hl : l.stackTraces = false) (D : Dd) (base b0 ao : Nat) (hb : b0 ≤ base) (hao : base + 681 ≤ ao) (M : Mm) (fo : Nat → Int64) (a1 : Int) (ha1 : i32 a1) (a2 : Int) (ha2 : i32 a2) (sz : Nat) (r : Int × Int × Mm) (ho : f_X11_isKept a1 a2 M = some r) (hr : r.1 = 0 ∨ r.1 = 1) : Met l yL_isKept (.codeWith yL_isKept cL_isKept 5 (some .int) [(0, 17, 20, 13)] :: LWL) (rmX 8 125 2 12) (PcL D base b0 ao M fo [.ref (base + 0), .int (Ii a1), .int (Ii a2), .ref ao] sz) (QcL D base ao (if r.1 = 1 then 1 else 0) r.2.2 (if r.1 = 0 then vp_updL fo 0 (Ll r.2.1) else fo) sz) 2 12 (FW base ao sz) := by
  refine Met_ofWH (hh := [(0, 17, 20, 13)]) (cc := cL_isKept) (maxL := 5) (ret := some .int) (by decide +kernel) rfl ?_
  intro p e s m args below meth c s₁ B hml hv
  obtain ⟨rfl, rfl, hW, hO, hK, hN, hKX⟩ := hv
  have hts := atoms_spec (ws := .codeWith yL_isKept cL_isKept 5 (some .int) [(0, 17, 20, 13)] :: LWL) B.pre
  have htb : c.exceptionTable.toList = tableOf [(0, 17, 20, 13)] := vx_table (x := yL_isKept) B (hts _ List.mem_cons_self)
  have hts : ∀ w ∈ LWL, w.before _ s = true := fun w hw => hts w (List.mem_cons_of_mem _ hw)
  have hrt := B.returns
  have hlk := B.notSynchronized
  have X : Cl_ p l s m _ c cL_isKept D 5 b0 := ⟨B.exec, B.bytes, hml, findClass_of_methodNamed B.named, hts, hK, hN, hKX⟩
  have hl9 := lv_entry [.ref (base + 0), .int (Ii a1), .int (Ii a2), .ref ao] (n := 5) (Nat.le_of_ble_eq_true rfl)
  rw [lg_entry_eq]
  change lv_has _ 5 [(0, .ref (base + 0)), (1, .int (Ii a1)), (2, .int (Ii a2)), (3, .ref ao)] at hl9
  refine (?_ : Gw p l e (rmX 8 125 2 12) s m _ below meth c D base ao 5 0 0 (MQ below (QcL D base ao (if r.1 = 1 then 1 else 0) r.2.2 (if r.1 = 0 then vp_updL fo 0 (Ll r.2.1) else fo) s.heap.size) _ s 2 12 (FW base ao s.heap.size)) M fo 0 [(0, .ref (base + 0)), (1, .int (Ii a1)), (2, .int (Ii a2)), (3, .ref ao)] []) s.heap [] _ hW hO va_S.rf hl9
  refine gw_aload_n X dL_isKept_0 rfl 3 rfl ?_
  refine gw_iconst (v := 0) X dL_isKept_1 rfl ?_
  refine gw_aload_n X dL_isKept_2 rfl 0 rfl ?_
  refine gw_iload_n X dL_isKept_3 rfl 1 rfl ?_
  refine gw_iload_n X dL_isKept_4 rfl 2 rfl ?_
  refine gw_call X hb hao (ok_X11_isKept l hl D base b0 hb M a1 ha1 a2 ha2) ho dL_isKept_5 ll59 ll60 ll61 lw19 lw857 cy_X11_isKept ⟨Nat.le_of_ble_eq_true rfl, Nat.le_of_ble_eq_true rfl⟩ rfl rfl rfl (Nat.le_of_ble_eq_true rfl) ⟨Nat.le_of_ble_eq_true rfl, Nat.le_of_ble_eq_true rfl⟩ (fun hp => ?_) (fun h0 hk0 => ?_)
  · have hq : r.1 = 1 := by omega
    refine ⟨[], ⟨0, 17, 20, 13⟩, [], exn 1, by rw [htb]; rfl, (fun z hz => by cases hz), by decide, by decide, hts _ (inL _ ll0), ?_, fun q9 => ?_⟩
    · rw [hq]; exact va_Nw.use rfl (hKX.1 (.castable (exn 1) (exn 1)) (by decide +kernel))
    · refine gw_astore (L' := [(4, .ref q9), (0, .ref (base + 0)), (1, .int (Ii a1)), (2, .int (Ii a2)), (3, .ref ao)]) X dL_isKept_20 (by decide) rfl ?_
      refine gw_iconst (v := 1) X dL_isKept_22 rfl ?_
      exact gw_ireturn X hrt hlk dL_isKept_23 (Nat.le_of_ble_eq_true rfl) (Nat.le_of_ble_eq_true rfl) (by rw [hq]; rfl) rfl (by rw [hq]; rfl)
  · refine gw_if_eq (tgt := 15) X dL_isKept_8 rfl (bo_i32 hk0) (fun hv9 => ?_) (fun hv8 => ?_)
    · refine gw_lconst (v := 0) X dL_isKept_15 rfl ?_
      refine gw_lastore X hao dL_isKept_16 ?_
      refine gw_goto (tgt := 24) X dL_isKept_17 rfl ?_
      refine gw_iconst (v := 0) X dL_isKept_24 rfl ?_
      exact gw_ireturn X hrt hlk dL_isKept_25 (Nat.le_of_ble_eq_true rfl) (Nat.le_of_ble_eq_true rfl) (by rw [h0]; rfl) rfl (by rw [if_pos h0]; rw [hv9])
    · have hv9 : r.2.1 = 1 := hk0.resolve_left hv8
      refine gw_lconst (v := 1) X dL_isKept_11 rfl ?_
      refine gw_goto (tgt := 16) X dL_isKept_12 rfl ?_
      refine gw_lastore X hao dL_isKept_16 ?_
      refine gw_goto (tgt := 24) X dL_isKept_17 rfl ?_
      refine gw_iconst (v := 0) X dL_isKept_24 rfl ?_
      exact gw_ireturn X hrt hlk dL_isKept_25 (Nat.le_of_ble_eq_true rfl) (Nat.le_of_ble_eq_true rfl) (by rw [h0]; rfl) rfl (by rw [if_pos h0]; rw [hv9])
theorem ok_L_why (l : Launch) (hl : l.stackTraces = false) (D : Dd) (base b0 ao : Nat) (hb : b0 ≤ base) (hao : base + 681 ≤ ao) (M : Mm) (fo : Nat → Int64) (a1 : Int) (ha1 : i32 a1) (a2 : Int) (ha2 : i32 a2) (a3 : Int) (ha3 : i32 a3) (sz : Nat) (r : Int × Int × Mm) (ho : f_X11_why a1 a2 a3 M = some r) (hr : r.1 = 0 ∨ r.1 = 1) : Met l yL_why (.codeWith yL_why cL_why 6 (some .int) [(0, 12, 15, 13)] :: LWL) (rmX 8 193 3 18) (PcL D base b0 ao M fo [.ref (base + 0), .int (Ii a1), .int (Ii a2), .int (Ii a3), .ref ao] sz) (QcL D base ao (if r.1 = 1 then 1 else 0) r.2.2 (if r.1 = 0 then vp_updL fo 0 (Ll r.2.1) else fo) sz) 3 18 (FW base ao sz) := by
  refine Met_ofWH (hh := [(0, 12, 15, 13)]) (cc := cL_why) (maxL := 6) (ret := some .int) (by decide +kernel) rfl ?_
  intro p e s m args below meth c s₁ B hml hv
  obtain ⟨rfl, rfl, hW, hO, hK, hN, hKX⟩ := hv
  have hts := atoms_spec (ws := .codeWith yL_why cL_why 6 (some .int) [(0, 12, 15, 13)] :: LWL) B.pre
  have htb : c.exceptionTable.toList = tableOf [(0, 12, 15, 13)] := vx_table (x := yL_why) B (hts _ List.mem_cons_self)
  have hts : ∀ w ∈ LWL, w.before _ s = true := fun w hw => hts w (List.mem_cons_of_mem _ hw)
  have hrt := B.returns
  have hlk := B.notSynchronized
  have X : Cl_ p l s m _ c cL_why D 6 b0 := ⟨B.exec, B.bytes, hml, findClass_of_methodNamed B.named, hts, hK, hN, hKX⟩
  have hl9 := lv_entry [.ref (base + 0), .int (Ii a1), .int (Ii a2), .int (Ii a3), .ref ao] (n := 6) (Nat.le_of_ble_eq_true rfl)
  rw [lg_entry_eq]
  change lv_has _ 6 [(0, .ref (base + 0)), (1, .int (Ii a1)), (2, .int (Ii a2)), (3, .int (Ii a3)), (4, .ref ao)] at hl9
  refine (?_ : Gw p l e (rmX 8 193 3 18) s m _ below meth c D base ao 6 0 0 (MQ below (QcL D base ao (if r.1 = 1 then 1 else 0) r.2.2 (if r.1 = 0 then vp_updL fo 0 (Ll r.2.1) else fo) s.heap.size) _ s 3 18 (FW base ao s.heap.size)) M fo 0 [(0, .ref (base + 0)), (1, .int (Ii a1)), (2, .int (Ii a2)), (3, .int (Ii a3)), (4, .ref ao)] []) s.heap [] _ hW hO va_S.rf hl9
  refine gw_aload X dL_why_0 4 rfl ?_
  refine gw_iconst (v := 0) X dL_why_2 rfl ?_
  refine gw_aload_n X dL_why_3 rfl 0 rfl ?_
  refine gw_iload_n X dL_why_4 rfl 1 rfl ?_
  refine gw_iload_n X dL_why_5 rfl 2 rfl ?_
  refine gw_iload_n X dL_why_6 rfl 3 rfl ?_
  refine gw_call X hb hao (ok_X11_why l hl D base b0 hb M a1 ha1 a2 ha2 a3 ha3) ho dL_why_7 ll63 ll64 ll65 lw19 lw864 cy_X11_why ⟨Nat.le_of_ble_eq_true rfl, Nat.le_of_ble_eq_true rfl⟩ rfl rfl rfl (Nat.le_of_ble_eq_true rfl) ⟨Nat.le_of_ble_eq_true rfl, Nat.le_of_ble_eq_true rfl⟩ (fun hp => ?_) (fun h0 hk0 => ?_)
  · have hq : r.1 = 1 := by omega
    refine ⟨[], ⟨0, 12, 15, 13⟩, [], exn 1, by rw [htb]; rfl, (fun z hz => by cases hz), by decide, by decide, hts _ (inL _ ll0), ?_, fun q9 => ?_⟩
    · rw [hq]; exact va_Nw.use rfl (hKX.1 (.castable (exn 1) (exn 1)) (by decide +kernel))
    · refine gw_astore (L' := [(5, .ref q9), (0, .ref (base + 0)), (1, .int (Ii a1)), (2, .int (Ii a2)), (3, .int (Ii a3)), (4, .ref ao)]) X dL_why_15 (by decide) rfl ?_
      refine gw_iconst (v := 1) X dL_why_17 rfl ?_
      exact gw_ireturn X hrt hlk dL_why_18 (Nat.le_of_ble_eq_true rfl) (Nat.le_of_ble_eq_true rfl) (by rw [hq]; rfl) rfl (by rw [hq]; rfl)
  · refine gw_i2l X dL_why_10 hk0 ?_
    refine gw_lastore X hao dL_why_11 ?_
    refine gw_goto (tgt := 19) X dL_why_12 rfl ?_
    refine gw_iconst (v := 0) X dL_why_19 rfl ?_
    exact gw_ireturn X hrt hlk dL_why_20 (Nat.le_of_ble_eq_true rfl) (Nat.le_of_ble_eq_true rfl) (by rw [h0]; rfl) rfl (by rw [if_pos h0])
