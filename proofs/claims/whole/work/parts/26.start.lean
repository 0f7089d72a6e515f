/-! the law from its entry, for any simulation of the class by the reference -/
theorem vpc_arr {cA : ClassId} {len : Nat} {f g : Nat → Option Nat} (h : ∀ i, i < len → f i = g i) : vp_cell cA (len, .inr (.inr (.inr (.inr f)))) = vp_cell cA (len, .inr (.inr (.inr (.inr g)))) := by
  rw [vp_cell_q, vp_cell_q]
  unfold arrV
  congr 2
  funext j
  show va_rf (f j.val) = va_rf (g j.val)
  rw [h j.val j.isLt]
/-- where the growing world's references are those that stand still -/
def cvOk (q : Ck) (f : Nat → Int) : Bool := match q.1 with
  | 0 => (List.range q.2.2.length).all fun i => if (q.2.2.getD i (0, 0)).1 = 2 then decide (f i = ((q.2.2.getD i (0, 0)).2 : Int)) else true
  | 5 => (List.range q.2.1).all fun i => decide (f i = (((q.2.2.getD 0 (0, 0)).1 + (q.2.2.getD 0 (0, 0)).2 * i : Nat) : Int))
  | 7 => (List.range q.2.1).all fun i => decide (f i = (((q.2.2.getD 0 (0, 0)).1 + (q.2.2.getD 0 (0, 0)).2 * i : Nat) : Int))
  | _ => true
theorem ro_nat (base k : Nat) : ro base (k : Int) = some (base + k) := by
  unfold ro
  rw [if_neg (by omega)]
  simp
theorem Wd_conv {D : Dd} {T : Nat → Ck} {n base : Nat} {M : Mm} {H : Heap} (h : Wd D (TK T) n base M H) (hc : ∀ k, k < n → cvOk (T k) (M k) = true) : Wd D T n base M H := by
  refine ⟨fun k q hq => ?_, fun k hk i => ?_⟩
  · have hk : k < n := by
      have := (List.getElem?_eq_some_iff.mp hq).1
      rwa [Ws_len] at this
    have h1 := h.1 k _ (Ws_get D (TK T) base M hk)
    rw [Ws_get D T base M hk] at hq
    cases hq
    have hcv := hc k hk
    unfold TK at h1
    generalize T k = q at h1 hcv ⊢
    obtain ⟨tg, ln, sl⟩ := q
    match tg, h1, hcv with
    | 0, h1, hcv =>
      obtain ⟨r, g1, g2⟩ := h1
      refine ⟨r, g1, ?_⟩
      have e : sts base (sl.map fun z => if z.1 = 2 then (3, 0) else z) (M k) = sts base sl (M k) := by
        unfold sts
        rw [List.length_map]
        apply List.map_congr_left
        intro i hi
        have hi9 : i < sl.length := List.mem_range.mp hi
        have hci := List.all_eq_true.mp hcv i hi
        rw [List.getD_eq_getElem?_getD, List.getElem?_map, List.getElem?_eq_getElem hi9]
        rw [List.getD_eq_getElem?_getD, List.getElem?_eq_getElem hi9]
        simp only [List.getD_eq_getElem?_getD, List.getElem?_eq_getElem hi9, Option.getD_some] at hci
        show sv base (if (sl[i]).1 = 2 then (3, 0) else sl[i]) (M k i) = sv base sl[i] (M k i)
        generalize sl[i] = z at hci ⊢
        obtain ⟨z1, z2⟩ := z
        by_cases hz : z1 = 2
        · subst hz
          simp only [if_true, decide_eq_true_eq] at hci
          rw [hci]
          exact rv_nat base z2
        · rw [if_neg hz]
      have g3 : t_OB (base + k) (D.1.1 ln) r.2.2 (D.1.2 ln) H (vp_V (sts base (sl.map fun z => if z.1 = 2 then (3, 0) else z) (M k))) := g2
      rw [e] at g3
      exact g3
    | 1, h1, _ => exact h1
    | 2, h1, _ => exact h1
    | 3, h1, _ => exact h1
    | 4, h1, _ => exact h1
    | 5, h1, hcv =>
      have h2 : H[base + k]? = some (vp_cell (D.2 3) (ln, .inr (.inr (.inr (.inr fun i => ro base (M k i)))))) := h1
      show H[base + k]? = some (vp_cell (D.2 3) (ln, .inr (.inr (.inr (.inr fun i => some (base + ((sl.getD 0 (0, 0)).1 + (sl.getD 0 (0, 0)).2 * i)))))))
      rw [h2, vpc_arr (fun i hi => ?_)]
      have hci := List.all_eq_true.mp hcv i (List.mem_range.mpr hi)
      simp only [decide_eq_true_eq] at hci
      rw [hci]
      exact ro_nat base _
    | 6, h1, _ => exact h1
    | 7, h1, hcv =>
      have h2 : H[base + k]? = some (vp_cell (D.2 4) (ln, .inr (.inr (.inr (.inr fun i => ro base (M k i)))))) := h1
      show H[base + k]? = some (vp_cell (D.2 4) (ln, .inr (.inr (.inr (.inr fun i => some (base + ((sl.getD 0 (0, 0)).1 + (sl.getD 0 (0, 0)).2 * i)))))))
      rw [h2, vpc_arr (fun i hi => ?_)]
      have hci := List.all_eq_true.mp hcv i (List.mem_range.mpr hi)
      simp only [decide_eq_true_eq] at hci
      rw [hci]
      exact ro_nat base _
    | x + 8, h1, _ => exact h1
  · have h2 := h.2 k hk i
    unfold TK at h2
    generalize T k = q at h2 ⊢
    obtain ⟨tg, ln, sl⟩ := q
    match tg, h2 with
    | 0, h2 =>
      have h3 : okS ((sl.map fun z => if z.1 = 2 then (3, 0) else z).getD i (0, 0)) (M k i) := h2
      show okS (sl.getD i (0, 0)) (M k i)
      rw [List.getD_eq_getElem?_getD, List.getElem?_map] at h3
      rw [List.getD_eq_getElem?_getD]
      cases hs : sl[i]? with
      | none => rw [hs] at h3; exact h3
      | some z =>
        rw [hs] at h3
        have h4 : okS (if z.1 = 2 then (3, 0) else z) (M k i) := h3
        show okS z (M k i)
        by_cases hz : z.1 = 2
        · obtain ⟨z1, z2⟩ := z
          have hz : z1 = 2 := hz
          subst hz
          trivial
        · rw [if_neg hz] at h4
          exact h4
    | 1, h2 => exact h2
    | 2, h2 => exact h2
    | 3, h2 => exact h2
    | 4, _ => trivial
    | 5, _ => trivial
    | 6, _ => trivial
    | 7, _ => trivial
    | x + 8, _ => trivial
def MC0 : Mm := mX11_init (MI TC)
def MR0 : Mm := mX12_init (MI TR)
set_option maxRecDepth 100000 in
theorem MC0_ok : ∀ k, k < 681 → cvOk (TC k) (MC0 k) = true := by decide +kernel
set_option maxRecDepth 100000 in
theorem MR0_ok : ∀ k, k < 67 → cvOk (TR k) (MR0 k) = true := by decide +kernel
theorem MI_fresh (T : Nat → Ck) (n : Nat) : Fresh (TK T) (MI T) n := fun _ _ _ => rfl
theorem born {s : State} {D : Dd} {T : Nat → Ck} {C : String} {Tb : u_T} {N ci : Nat} {ty0 : Nat → FieldType} {sl : List (Nat × Nat)} {args : Array Value} (hts : ∀ w ∈ LW, w.before args s = true) (hK : va_K D.1 vwCl (tys D) s) (F : Fc ci C Tb N ty0) (hT : TK T 0 = (0, ci, sl)) (hN9 : sl.length = N) (hdf : ∀ j, j < N → kdOk (ty0 j) (sl.getD j (0, 0)) = true) {H1 : Heap} {h : Nat} {kC : Class} (hkC : s.vm.classes[D.1.1 ci]? = some kC) (e1 : H1[h]? = some (blank (D.1.1 ci) kC)) : Wd D (TK T) 1 h (MI T) H1 := by
  obtain ⟨f1, f2, f3, f4⟩ := F
  have hKn := hK.1 ci _ f1
  have h0 : Wd D (TK T) 0 h (MI T) H1 := ⟨fun k q hq => by simp [Ws] at hq, fun k hk => absurd hk (Nat.not_lt_zero _)⟩
  refine ⟨?_, fun k hk i => ?_⟩
  · rw [Ws_succ]
    refine h0.1.app (fun k q hq => ?_)
    have hk : k < 1 := (List.getElem?_eq_some_iff.mp hq).1
    rw [show k = 0 by omega] at hq
    cases hq
    rw [hT]
    refine ⟨_, f1, (u_born ty0 hts f2 hKn hkC e1 f3).to (fun j hj => ?_)⟩
    have hj9 : j < sl.length := by rw [hN9]; exact hj
    show defaultValue (ty0 j) = vp_V (sts h sl (MI T 0)) j
    unfold vp_V
    rw [List.getD_eq_getElem?_getD, sts_get h (MI T 0) (q := sl.getD j (0, 0)) (by rw [List.getD_eq_getElem?_getD, List.getElem?_eq_getElem hj9]; rfl)]
    show defaultValue (ty0 j) = sv h (sl.getD j (0, 0)) (mi (TK T 0) j)
    rw [hT]
    exact kdOk_def h (hdf j hj)
  · rw [show k = 0 by omega, hT]
    show okS (sl.getD i (0, 0)) (mi (TK T 0) i)
    rw [hT]
    show okS (sl.getD i (0, 0)) (miS (sl.getD i (0, 0)))
    by_cases hi : i < N
    · have h9 := hdf i hi
      generalize sl.getD i (0, 0) = q at h9 ⊢
      obtain ⟨a, b⟩ := q
      generalize ty0 i = t at h9
      cases t <;> simp [kdOk] at h9 <;> subst h9 <;> first | (show i32 0; decide) | (show bo 0; decide) | (show i64 0; decide) | trivial
    · rw [List.getD_eq_getElem?_getD, List.getElem?_eq_none (by omega)]
      show i32 0
      decide
theorem known {s : State} {args : Array Value} (hts : ∀ w ∈ LWL, w.before args s = true) (hao0 : va_AO RX0 s) (hao4 : va_AO RX4 s) : ∃ D : Dd, va_K D.1 vwCl (tys D) s := by
  have hall : ∀ k : Nat, ∃ z : ClassId × (Nat → Nat), ∀ q, vwCl[k]? = some q → u_Kn s q.1 q.2.1 q.2.2 z.1 z.2 := by
    intro k
    have mk : ∀ (C : String) (T : u_T) (N n : Nat), (∀ w ∈ u_ws C T N, w ∈ LW) → Cond.instantiable C n ∈ LWL → vwCl[k]? = some (C, T, N) → ∃ z : ClassId × (Nat → Nat), ∀ q, vwCl[k]? = some q → u_Kn s q.1 q.2.1 q.2.2 z.1 z.2 := by
      intro C T N n h1 h2 h3
      obtain ⟨c, i, h⟩ := u_known (ws := LWL) hts (fun w hw => inW w (h1 w hw)) (hts _ h2)
      refine ⟨(c, i), fun q hq => ?_⟩
      rw [h3] at hq
      cases hq
      exact h
    match k, mk with
    | 0, mk => exact mk _ _ _ _ fcw0 (inW _ lw54) rfl
    | 1, mk => exact mk _ _ _ _ fcw1 (inW _ lw645) rfl
    | 2, mk => exact mk _ _ _ _ fcw2 (inW _ lw659) rfl
    | 3, mk => exact mk _ _ _ _ fcw3 (inW _ lw655) rfl
    | 4, mk => exact mk _ _ _ _ fcw4 (inW _ lw156) rfl
    | 5, mk => exact mk _ _ _ _ fcw5 (inW _ lw638) rfl
    | 6, mk => exact mk _ _ _ _ fcw6 (inW _ lw665) rfl
    | 7, mk => exact mk _ _ _ _ fcw7 (inW _ lw662) rfl
    | 8, mk => exact mk _ _ _ _ fcw8 (inW _ lw651) rfl
    | 9, mk => exact mk _ _ _ _ fcw9 (inW _ lw648) rfl
    | 10, mk => exact mk _ _ _ _ fcw10 (inW _ lw643) rfl
    | 11, mk => exact mk _ _ _ _ fcw11 (inL _ ll68) rfl
    | 12, mk => exact mk _ _ _ _ fcw12 (inL _ ll70) rfl
    | k + 13, _ => exact ⟨(0, fun _ => 0), fun q hq => by simp [vwCl] at hq⟩
  obtain ⟨f, hf⟩ := Classical.axiomOfChoice hall
  obtain ⟨a1, k1, p1, g1, g2, g3⟩ := Cond.arrayClass_spec (hts _ (inW _ lw4))
  obtain ⟨a2, k2, p2, g4, g5, g6⟩ := Cond.arrayClass_spec (hts _ (inW _ lw45))
  obtain ⟨a3, k3, p3, g7, g8, g9⟩ := Cond.arrayClass_spec (hts _ (inW _ lw919))
  obtain ⟨c4, a4, k4, m1, -, m2, m3, m4⟩ := Cond.arrayOver_spec hao0
  obtain ⟨c5, a5, k5, m5, -, m6, m7, m8⟩ := Cond.arrayOver_spec hao4
  refine ⟨((fun k => (f k).1, fun k => (f k).2), fun k => match k with | 0 => a1 | 1 => a2 | 2 => a3 | 3 => a4 | _ => a5), fun c q hq => hf c q hq, fun k q hq => ?_⟩
  match k, hq with
  | 0, hq => cases hq; exact ⟨fun n z => ⟨fun k h => (by cases h), k1, g2, p1, g3⟩, g1⟩
  | 1, hq => cases hq; exact ⟨fun n z => ⟨fun k h => (by cases h), k2, g5, p2, g6⟩, g4⟩
  | 2, hq => cases hq; exact ⟨fun n z => ⟨fun k h => (by cases h), k3, g8, p3, g9⟩, g7⟩
  | 3, hq => cases hq; exact ⟨fun n z => ⟨fun k h => (by cases h), k4, m2, c4, m3⟩, ⟨k4, c4, m2, m3, m1, m4⟩⟩
  | 4, hq => cases hq; exact ⟨fun n z => ⟨fun k h => (by cases h), k5, m6, c5, m7⟩, ⟨k5, c5, m6, m7, m5, m8⟩⟩
  | k + 5, hq => simp [tys] at hq
theorem kx_start {s : State} {b : Nat} (hts : ∀ w ∈ lw_tbl, w.before #[Value.ref b] s = true) (hgv : (Jvm.Cond.and given_1 narrow_1).before #[Value.ref b] s = true) : KX s.heap.size s s.heap := by
  have hF := flat_of_before _ hgv
  refine ⟨fun w hw => va_Nw.of (isCD_tab (XB_cd w hw)) (hts w (XB_tbl w hw)), fun q hq => ?_, vx_Zqof (hts _ lay1_tbl.1) (hts _ lay1_tbl.2.2) (hF _ nar_st.1) (fun a ha => Nat.not_le.mpr ha), vx_Zqof (hts _ lay1_tbl.2.1) (hts _ lay1_tbl.2.2) (hF _ nar_st.2) (fun a ha => Nat.not_le.mpr ha), fun q hq => va_Nc.of (hF _ (nar_xp q hq))⟩
  obtain ⟨a, c, cell, k, h1, -⟩ := Cond.exactly_spec (hF _ (nar_str q hq))
  exact ⟨a, vk_R.of (hts _ (STR_tbl q hq)) h1⟩
theorem law_start {p : Program} {e : Env} {s : State} {m : MethodId} {below : List Frame} {meth : Method} {c : Code} (l : Launch) (hflags : l.flags = flags0) {b L : Nat} {xs : Nat → Int32} (hL : L ≤ 3072) (C0 : lw_At p s m meth c b L xs) {Inv : Mm → Mm → Nat → Prop} (hS : Sim Inv) (hI : Inv MC0 MR0 0) : W p l e room_1 s m #[Value.ref b] below meth c s.heap [] 0 0 (lw_Z below #[Value.ref b] s) (entryFrame m ([Value.ref b] : List Value).toArray 7) := by
  obtain ⟨hx, hb, hr, hml, hown, htb, hX, hbl, hlocks, hgv⟩ := id C0
  have hl : l.stackTraces = false := by unfold Launch.stackTraces; rw [hflags]; decide +kernel
  have hts : ∀ w ∈ LWL, w.before #[Value.ref b] s = true := fun w hw => htb w (LWL_tbl w hw)
  have hLW : ∀ w ∈ LW, w.before #[Value.ref b] s = true := fun w hw => hts w (inW w hw)
  have hao0 : va_AO RX0 s := va_AO.of (htb _ AO0_tbl)
  have hao4 : va_AO RX4 s := va_AO.of (htb _ AO4_tbl)
  have hN : Nw_ s := fun q hq => va_Nw.of rfl (htb _ (NL_tbl q hq))
  have hKX := kx_start htb hgv
  obtain ⟨D, hK⟩ := known hts hao0 hao4
  have hown9 : s.vm.findClass RL = some m.cls := hown
  have hl9 := lv_entry ([.ref b]) (n := 7) (Nat.le_of_ble_eq_true rfl)
  rw [lg_entry_eq]
  generalize (lg_sl ([.ref b]) ++ List.replicate (7 - (lg_sl ([.ref b])).length) Slot.unset).toArray = ls at hl9 ⊢
  have hl9 : lv_has ls 7 [(0, .ref b)] := hl9
  have hK11 := hK.1 11 _ rfl
  have hK12 := hK.1 12 _ rfl
  -- new AttribArbor()
  refine W.newcK hx hb hown9 (hts _ (inL _ ll67)) (hts _ (inL _ ll68)) (hts _ (inW _ lw19)) rfl dL_law_0 (Nat.le_of_ble_eq_true rfl) (Nat.le_of_ble_eq_true rfl) hK11.2.1 rfl fun H1 kC hkC e1 z1 o1 => ?_
  have hW1 : Wd D (TK TC) 1 s.heap.size (MI TC) H1 := born (sl := [(3, 0), (3, 0), (3, 0), (3, 0), (3, 0), (3, 0), (3, 0), (3, 0), (3, 0), (3, 0), (3, 0)]) hLW hK fc11 tck0 rfl hdfX11 hkC e1
  have hS1 : va_S (FB s.heap.size) s.heap H1 [] := ⟨by rw [z1]; exact Nat.le_succ _, fun q h1 _ => o1 q h1, fun _ h => by cases h⟩
  refine lv_dup hx hb dL_law_3 rfl ?_
  refine va_callv (A1 := FB s.heap.size) (free := FB s.heap.size) (va_runI (As := []) (rest := [.ref s.heap.size]) (b := s.heap.size) (g := F0 m 4 ls [.ref s.heap.size, .ref s.heap.size]) (nL := 7) ⟨hx, hb, hml, hown9, hts⟩ (ok_X11_init l D s.heap.size (MI TC) (MI_fresh TC 1)) (cwI 0 hts (good_callL (pre := []) (fun w hw => by cases hw) (inW _ lw682) inW) rfl rfl rfl (hts _ (inW _ lw19)) (hts _ (inL _ ll71)) (hts _ (inL _ ll72)) rfl cy_X11_init ⟨Nat.le_of_ble_eq_true rfl, Nat.le_of_ble_eq_true rfl⟩) ⟨PcN_blind, fun U hU hWm => ⟨rfl, by rw [hU, z1], by rw [hU]; exact hW1, va_K.moved hWm.alike hK, fun z hz => va_Nw.warmM hWm (hN z hz), hao0.moved hWm.alike, hao4.moved hWm.alike⟩⟩ rfl rfl hl9.1 rfl (Nat.le_of_ble_eq_true rfl) dL_law_4 ⟨Nat.le_of_ble_eq_true rfl, Nat.le_of_ble_eq_true rfl⟩) hS1 (fun q _ h => h) (fun q h => h) (fun u t H2 locs2 ht hvm hp hB hz2 hk2 hS2 => ?_)
  rw [ht] at hB
  obtain ⟨hW2, hZ2⟩ := hB
  have hWC : Wd D TC 681 s.heap.size MC0 H2 := Wd_conv hW2 MC0_ok
  refine lv_astore_n (lv' := [(1, .ref (s.heap.size + 0)), (0, .ref b)]) hx hb dL_law_7 rfl hl9 (by decide) rfl (fun ls hl9 => ?_)
  -- new AttribArborModel()
  refine W.newcK hx hb hown9 (hts _ (inL _ ll69)) (hts _ (inL _ ll70)) (hts _ (inW _ lw944)) rfl dL_law_8 (Nat.le_of_ble_eq_true rfl) (Nat.le_of_ble_eq_true rfl) hK12.2.1 hZ2 fun H3 kC3 hkC3 e3 z3 o3 => ?_
  have hW3 : Wd D (TK TR) 1 (s.heap.size + 681) (MI TR) H3 := born (sl := [(0, 0), (3, 0), (3, 0), (3, 0), (3, 0), (3, 0), (3, 0), (3, 0), (3, 0), (3, 0), (3, 0), (3, 0), (0, 0), (3, 0), (0, 0), (0, 0), (3, 0), (3, 0), (3, 0), (0, 0), (3, 0), (3, 0), (3, 0), (3, 0), (3, 0), (3, 0), (3, 0), (3, 0), (3, 0), (3, 0), (3, 0), (3, 0), (3, 0), (0, 0), (3, 0), (0, 0), (0, 0), (3, 0), (3, 0), (3, 0), (3, 0), (3, 0), (3, 0), (3, 0), (0, 0), (3, 0), (3, 0), (3, 0), (3, 0), (3, 0), (3, 0), (3, 0), (3, 0), (3, 0), (3, 0), (3, 0), (3, 0), (3, 0), (0, 0), (0, 0), (3, 0), (3, 0), (3, 0), (3, 0), (3, 0), (3, 0), (3, 0), (0, 0), (0, 0), (0, 0), (3, 0), (3, 0), (0, 0), (0, 0), (4, 0), (1, 0), (1, 0), (3, 0), (3, 0), (1, 0), (0, 0), (3, 0), (3, 0), (3, 0), (3, 0), (3, 0), (3, 0), (0, 0)]) hLW hK fc12 trk0 rfl hdfX12 hkC3 e3
  have hS3 : va_S (FB s.heap.size) s.heap H3 locs2 := ⟨by rw [z3]; omega, fun q h1 h2 => by rw [o3 q (by omega)]; exact hS2.2.1 q h1 h2, hS2.2.2⟩
  have hWC3 : Wd D TC 681 s.heap.size MC0 H3 := hWC.kept (fun q hq => o3 q (by rw [← hZ2]; exact hq))
  refine lv_dup hx hb dL_law_11 rfl ?_
  refine va_callv (A1 := FB (s.heap.size + 681)) (free := FB (s.heap.size + 681)) (va_runI (As := []) (rest := [.ref (s.heap.size + 681)]) (b := s.heap.size + 681) (g := F0 m 12 ls [.ref (s.heap.size + 681), .ref (s.heap.size + 681)]) (nL := 7) ⟨hx, hb, hml, hown9, hts⟩ (ok_X12_init l D (s.heap.size + 681) (MI TR) (MI_fresh TR 1)) (cwI 0 hts (good_callL (pre := []) (fun w hw => by cases hw) (inW _ lw934) inW) rfl rfl rfl (hts _ (inW _ lw944)) (hts _ (inL _ ll73)) (hts _ (inL _ ll74)) rfl cy_X12_init ⟨Nat.le_of_ble_eq_true rfl, Nat.le_of_ble_eq_true rfl⟩) ⟨PcN_blind, fun U hU hWm => ⟨rfl, by rw [hU, z3], by rw [hU]; exact hW3, va_K.moved hWm.alike hK, fun z hz => va_Nw.warmM hWm (hN z hz), hao0.moved hWm.alike, hao4.moved hWm.alike⟩⟩ rfl rfl hl9.1 rfl (Nat.le_of_ble_eq_true rfl) dL_law_12 ⟨Nat.le_of_ble_eq_true rfl, Nat.le_of_ble_eq_true rfl⟩) hS3 (fun q _ h => Nat.le_trans (Nat.le_add_right _ 681) h) (fun q h => Nat.le_trans (Nat.le_add_right _ 681) h) (fun u t H4 locs4 ht hvm hp hB hz4 hk4 hS4 => ?_)
  rw [ht] at hB
  obtain ⟨hW4, hZ4⟩ := hB
  have hWR : Wd D TR 67 (s.heap.size + 681) MR0 H4 := Wd_conv hW4 MR0_ok
  have hWC4 : Wd D TC 681 s.heap.size MC0 H4 := keptC hWC3 hk4 (fun q _ h2 h3 => absurd h2 (Nat.not_lt.mpr h3))
  refine lv_astore_n (lv' := [(2, .ref (s.heap.size + 681 + 0)), (1, .ref (s.heap.size + 0)), (0, .ref b)]) hx hb dL_law_15 rfl hl9 (by decide) rfl (fun ls hl9 => ?_)
  refine lv_iconst (v := 1) hx hb dL_law_16 (by decide) ?_
  -- new long[1]
  refine va_newaK (atype := .long) (N := 1) hx hb (hts _ (inW _ lw919)) rfl dL_law_17 rfl (by decide) rfl (Nat.le_of_ble_eq_true rfl) (Nat.le_of_ble_eq_true rfl) (Nat.le_of_ble_eq_true rfl) (hZ4.trans (Nat.add_assoc _ 681 67)) fun H5 cA e5 z5 o5 hAr hNm => ?_
  have hcA : cA = D.2 2 := by
    have h9 := (hK.2 2 _ rfl).2
    exact Option.some.inj (hNm.symm.trans h9)
  subst hcA
  have hH4 : H4.size = s.heap.size + 748 := hZ4.trans (Nat.add_assoc _ 681 67)
  have hWC5 : Wd D TC 681 s.heap.size MC0 H5 := hWC4.kept (fun q hq => o5 q (by rw [← hH4]; exact hq))
  have hWR5 : Wd D TR 67 (s.heap.size + 681) MR0 H5 := hWR.kept (fun q hq => o5 q (by rw [← hH4]; exact hq))
  have hO5 : OutAt D (s.heap.size + 748) (fun _ => 0) H5 := e5
  have hS5 : va_S (FB s.heap.size) s.heap H5 locs4 := ⟨by rw [z5]; omega, fun q h1 h2 => by rw [o5 q (by omega)]; exact hS4.2.1 q h1 h2, hS4.2.2⟩
  refine lv_astore_n (lv' := [(3, .ref (s.heap.size + 748)), (2, .ref (s.heap.size + 681 + 0)), (1, .ref (s.heap.size + 0)), (0, .ref b)]) hx hb dL_law_19 rfl hl9 (by decide) rfl (fun ls hl9 => ?_)
  refine lv_iconst (v := 0) hx hb dL_law_20 (by decide) ?_
  refine lv_istore (lv' := [(4, .int 0), (3, .ref (s.heap.size + 748)), (2, .ref (s.heap.size + 681 + 0)), (1, .ref (s.heap.size + 0)), (0, .ref b)]) hx hb dL_law_21 hl9 (by decide) rfl (fun ls hl9 => ?_)
  refine W.widen (k := 749 + 3 * 0) (n := 24000 + 18 * 0) (Nat.le_of_ble_eq_true rfl) (Nat.le_of_ble_eq_true rfl) ?_
  exact law_loop hl ⟨hx, hb, hml, hown9, hts, hK, hN, hKX, hX, hbl⟩ hS hr hlocks hL 513 0 rfl (by decide) MC0 MR0 (fun _ => 0) hI H5 locs4 ls hWC5 hWR5 hO5 hS5 (lv_sub hl9 [4, 3, 2, 1, 0] rfl)
