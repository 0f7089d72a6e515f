theorem vpc_arr {cA : ClassId} {len : Nat} {f g : Nat → Option Nat} (h : ∀ i, i < len → f i = g i) : vp_cell cA (len, .inr (.inr (.inr (.inr f)))) = vp_cell cA (len, .inr (.inr (.inr (.inr g)))) := by
  rw [vp_cell_q, vp_cell_q]
  unfold arrV
  congr 2
  funext j
  show va_rf (f j.val) = va_rf (g j.val)
  rw [h j.val j.isLt]
/-- where the growing world's references are those that stand still -/
def cvOk (q : Ck) (f : Nat → Int) : Bool := match q.1 with
  | 0 => (List.range q.2.2.length).all fun i => if (q.2.2.getD i (0, 0)).1 = 2 then decide (f i = ((q.2.2.getD i (0, 0)).2 : Int)) else true
  | 5 => (List.range q.2.1).all fun i => decide (f i = (((q.2.2.getD 0 (0, 0)).1 + (q.2.2.getD 0 (0, 0)).2 * i : Nat) : Int))
  | 7 => (List.range q.2.1).all fun i => decide (f i = (((q.2.2.getD 0 (0, 0)).1 + (q.2.2.getD 0 (0, 0)).2 * i : Nat) : Int))
  | _ => true
theorem ro_nat (base k : Nat) : ro base (k : Int) = some (base + k) := by
  unfold ro
  rw [if_neg (by omega)]
  simp
theorem Wd_conv {D : Dd} {T : Nat → Ck} {n base : Nat} {M : Mm} {H : Heap} (h : Wd D (TK T) n base M H) (hc : ∀ k, k < n → cvOk (T k) (M k) = true) : Wd D T n base M H := by
  refine ⟨fun k q hq => ?_, fun k hk i => ?_⟩
  · have hk : k < n := by
      have := (List.getElem?_eq_some_iff.mp hq).1
      rwa [Ws_len] at this
    have h1 := h.1 k _ (Ws_get D (TK T) base M hk)
    rw [Ws_get D T base M hk] at hq
    cases hq
    have hcv := hc k hk
    unfold TK at h1
    generalize T k = q at h1 hcv ⊢
    obtain ⟨tg, ln, sl⟩ := q
    match tg, h1, hcv with
    | 0, h1, hcv =>
      obtain ⟨r, g1, g2⟩ := h1
      refine ⟨r, g1, ?_⟩
      have e : sts base (sl.map fun z => if z.1 = 2 then (3, 0) else z) (M k) = sts base sl (M k) := by
        unfold sts
        rw [List.length_map]
        apply List.map_congr_left
        intro i hi
        have hi9 : i < sl.length := List.mem_range.mp hi
        have hci := List.all_eq_true.mp hcv i hi
        rw [List.getD_eq_getElem?_getD, List.getElem?_map, List.getElem?_eq_getElem hi9]
        rw [List.getD_eq_getElem?_getD, List.getElem?_eq_getElem hi9]
        simp only [List.getD_eq_getElem?_getD, List.getElem?_eq_getElem hi9, Option.getD_some] at hci
        show sv base (if (sl[i]).1 = 2 then (3, 0) else sl[i]) (M k i) = sv base sl[i] (M k i)
        generalize sl[i] = z at hci ⊢
        obtain ⟨z1, z2⟩ := z
        by_cases hz : z1 = 2
        · subst hz
          simp only [if_true, decide_eq_true_eq] at hci
          rw [hci]
          exact rv_nat base z2
        · rw [if_neg hz]
      have g3 : t_OB (base + k) (D.1.1 ln) r.2.2 (D.1.2 ln) H (vp_V (sts base (sl.map fun z => if z.1 = 2 then (3, 0) else z) (M k))) := g2
      rw [e] at g3
      exact g3
    | 1, h1, _ => exact h1
    | 2, h1, _ => exact h1
    | 3, h1, _ => exact h1
    | 4, h1, _ => exact h1
    | 5, h1, hcv =>
      have h2 : H[base + k]? = some (vp_cell (D.2 3) (ln, .inr (.inr (.inr (.inr fun i => ro base (M k i)))))) := h1
      show H[base + k]? = some (vp_cell (D.2 3) (ln, .inr (.inr (.inr (.inr fun i => some (base + ((sl.getD 0 (0, 0)).1 + (sl.getD 0 (0, 0)).2 * i)))))))
      rw [h2, vpc_arr (fun i hi => ?_)]
      have hci := List.all_eq_true.mp hcv i (List.mem_range.mpr hi)
      simp only [decide_eq_true_eq] at hci
      rw [hci]
      exact ro_nat base _
    | 6, h1, _ => exact h1
    | 7, h1, hcv =>
      have h2 : H[base + k]? = some (vp_cell (D.2 4) (ln, .inr (.inr (.inr (.inr fun i => ro base (M k i)))))) := h1
      show H[base + k]? = some (vp_cell (D.2 4) (ln, .inr (.inr (.inr (.inr fun i => some (base + ((sl.getD 0 (0, 0)).1 + (sl.getD 0 (0, 0)).2 * i)))))))
      rw [h2, vpc_arr (fun i hi => ?_)]
      have hci := List.all_eq_true.mp hcv i (List.mem_range.mpr hi)
      simp only [decide_eq_true_eq] at hci
      rw [hci]
      exact ro_nat base _
    | x + 8, h1, _ => exact h1
  · have h2 := h.2 k hk i
    unfold TK at h2
    generalize T k = q at h2 ⊢
    obtain ⟨tg, ln, sl⟩ := q
    match tg, h2 with
    | 0, h2 =>
      have h3 : okS ((sl.map fun z => if z.1 = 2 then (3, 0) else z).getD i (0, 0)) (M k i) := h2
      show okS (sl.getD i (0, 0)) (M k i)
      rw [List.getD_eq_getElem?_getD, List.getElem?_map] at h3
      rw [List.getD_eq_getElem?_getD]
      cases hs : sl[i]? with
      | none => rw [hs] at h3; exact h3
      | some z =>
        rw [hs] at h3
        have h4 : okS (if z.1 = 2 then (3, 0) else z) (M k i) := h3
        show okS z (M k i)
        by_cases hz : z.1 = 2
        · obtain ⟨z1, z2⟩ := z
          have hz : z1 = 2 := hz
          subst hz
          trivial
        · rw [if_neg hz] at h4
          exact h4
    | 1, h2 => exact h2
    | 2, h2 => exact h2
    | 3, h2 => exact h2
    | 4, _ => trivial
    | 5, _ => trivial
    | 6, _ => trivial
    | 7, _ => trivial
    | x + 8, _ => trivial
set_option maxRecDepth 100000 in
theorem MC0_ok : ∀ k, k < 681 → cvOk (TC k) (MC0 k) = true := by decide +kernel
theorem MI_fresh (T : Nat → Ck) (n : Nat) : Fresh (TK T) (MI T) n := fun _ _ _ => rfl
theorem born {s : State} {D : Dd} {T : Nat → Ck} {C : String} {Tb : u_T} {N ci : Nat} {ty0 : Nat → FieldType} {sl : List (Nat × Nat)} {args : Array Value} (hts : ∀ w ∈ LW, w.before args s = true) (hK : va_K D.1 vwCl (tys D) s) (F : Fc ci C Tb N ty0) (hT : TK T 0 = (0, ci, sl)) (hN9 : sl.length = N) (hdf : ∀ j, j < N → kdOk (ty0 j) (sl.getD j (0, 0)) = true) {H1 : Heap} {h : Nat} {kC : Class} (hkC : s.vm.classes[D.1.1 ci]? = some kC) (e1 : H1[h]? = some (blank (D.1.1 ci) kC)) : Wd D (TK T) 1 h (MI T) H1 := by
  obtain ⟨f1, f2, f3, f4⟩ := F
  have hKn := hK.1 ci _ f1
  have h0 : Wd D (TK T) 0 h (MI T) H1 := ⟨fun k q hq => by simp [Ws] at hq, fun k hk => absurd hk (Nat.not_lt_zero _)⟩
  refine ⟨?_, fun k hk i => ?_⟩
  · rw [Ws_succ]
    refine h0.1.app (fun k q hq => ?_)
    have hk : k < 1 := (List.getElem?_eq_some_iff.mp hq).1
    rw [show k = 0 by omega] at hq
    cases hq
    rw [hT]
    refine ⟨_, f1, (u_born ty0 hts f2 hKn hkC e1 f3).to (fun j hj => ?_)⟩
    have hj9 : j < sl.length := by rw [hN9]; exact hj
    show defaultValue (ty0 j) = vp_V (sts h sl (MI T 0)) j
    unfold vp_V
    rw [List.getD_eq_getElem?_getD, sts_get h (MI T 0) (q := sl.getD j (0, 0)) (by rw [List.getD_eq_getElem?_getD, List.getElem?_eq_getElem hj9]; rfl)]
    show defaultValue (ty0 j) = sv h (sl.getD j (0, 0)) (mi (TK T 0) j)
    rw [hT]
    exact kdOk_def h (hdf j hj)
  · rw [show k = 0 by omega, hT]
    show okS (sl.getD i (0, 0)) (mi (TK T 0) i)
    rw [hT]
    show okS (sl.getD i (0, 0)) (miS (sl.getD i (0, 0)))
    by_cases hi : i < N
    · have h9 := hdf i hi
      generalize sl.getD i (0, 0) = q at h9 ⊢
      obtain ⟨a, b⟩ := q
      generalize ty0 i = t at h9
      cases t <;> simp [kdOk] at h9 <;> subst h9 <;> first | (show i32 0; decide) | (show bo 0; decide) | (show i64 0; decide) | trivial
    · rw [List.getD_eq_getElem?_getD, List.getElem?_eq_none (by omega)]
      show i32 0
      decide
theorem kx_start {s : State} {b : Nat} (hts : ∀ w ∈ lw_tbl, w.before #[Value.ref b] s = true) (hgv : (Jvm.Cond.and given_1 narrow_1).before #[Value.ref b] s = true) : KX s.heap.size s s.heap := by
  have hF := flat_of_before _ hgv
  refine ⟨fun w hw => va_Nw.of (isCD_tab (XB_cd w hw)) (hts w (XB_tbl w hw)), fun q hq => ?_, vx_Zqof (hts _ lay1_tbl.1) (hts _ lay1_tbl.2.2) (hF _ nar_st.1) (fun a ha => Nat.not_le.mpr ha), vx_Zqof (hts _ lay1_tbl.2.1) (hts _ lay1_tbl.2.2) (hF _ nar_st.2) (fun a ha => Nat.not_le.mpr ha), fun q hq => va_Nc.of (hF _ (nar_xp q hq))⟩
  obtain ⟨a, c, cell, k, h1, -⟩ := Cond.exactly_spec (hF _ (nar_str q hq))
  exact ⟨a, vk_R.of (hts _ (STR_tbl q hq)) h1⟩
theorem known {s : State} {args : Array Value} (hts : ∀ w ∈ LW, w.before args s = true) (hao0 : va_AO RX0 s) (hao4 : va_AO RX4 s) : ∃ D : Dd, va_K D.1 vwCl (tys D) s := by
  have hall : ∀ k : Nat, ∃ z : ClassId × (Nat → Nat), ∀ q, vwCl[k]? = some q → u_Kn s q.1 q.2.1 q.2.2 z.1 z.2 := by
    intro k
    have mk : ∀ (C : String) (T : u_T) (N n : Nat), (∀ w ∈ u_ws C T N, w ∈ LW) → Cond.instantiable C n ∈ LW → vwCl[k]? = some (C, T, N) → ∃ z : ClassId × (Nat → Nat), ∀ q, vwCl[k]? = some q → u_Kn s q.1 q.2.1 q.2.2 z.1 z.2 := by
      intro C T N n h1 h2 h3
      obtain ⟨c, i, h⟩ := u_known (ws := LW) hts h1 (hts _ h2)
      refine ⟨(c, i), fun q hq => ?_⟩
      rw [h3] at hq
      cases hq
      exact h
    match k, mk with
    | 0, mk => exact mk _ _ _ _ fcw0 lw54 rfl
    | 1, mk => exact mk _ _ _ _ fcw1 lw645 rfl
    | 2, mk => exact mk _ _ _ _ fcw2 lw659 rfl
    | 3, mk => exact mk _ _ _ _ fcw3 lw655 rfl
    | 4, mk => exact mk _ _ _ _ fcw4 lw156 rfl
    | 5, mk => exact mk _ _ _ _ fcw5 lw638 rfl
    | 6, mk => exact mk _ _ _ _ fcw6 lw665 rfl
    | 7, mk => exact mk _ _ _ _ fcw7 lw662 rfl
    | 8, mk => exact mk _ _ _ _ fcw8 lw651 rfl
    | 9, mk => exact mk _ _ _ _ fcw9 lw648 rfl
    | 10, mk => exact mk _ _ _ _ fcw10 lw643 rfl
    | 11, mk => exact mk _ _ _ _ fcw11 lw972 rfl
    | k + 12, _ => exact ⟨(0, fun _ => 0), fun q hq => by simp [vwCl] at hq⟩
  obtain ⟨f, hf⟩ := Classical.axiomOfChoice hall
  obtain ⟨a1, k1, p1, g1, g2, g3⟩ := Cond.arrayClass_spec (hts _ lw4)
  obtain ⟨a2, k2, p2, g4, g5, g6⟩ := Cond.arrayClass_spec (hts _ lw45)
  obtain ⟨c4, a4, k4, m1, -, m2, m3, m4⟩ := Cond.arrayOver_spec hao0
  obtain ⟨c5, a5, k5, m5, -, m6, m7, m8⟩ := Cond.arrayOver_spec hao4
  refine ⟨((fun k => (f k).1, fun k => (f k).2), fun k => match k with | 0 => a1 | 1 => a2 | 2 => a1 | 3 => a4 | _ => a5), fun c q hq => hf c q hq, fun k q hq => ?_⟩
  match k, hq with
  | 0, hq => cases hq; exact ⟨fun n z => ⟨fun k h => (by cases h), k1, g2, p1, g3⟩, g1⟩
  | 1, hq => cases hq; exact ⟨fun n z => ⟨fun k h => (by cases h), k2, g5, p2, g6⟩, g4⟩
  | 2, hq => cases hq; exact ⟨fun n z => ⟨fun k h => (by cases h), k1, g2, p1, g3⟩, g1⟩
  | 3, hq => cases hq; exact ⟨fun n z => ⟨fun k h => (by cases h), k4, m2, c4, m3⟩, ⟨k4, c4, m2, m3, m1, m4⟩⟩
  | 4, hq => cases hq; exact ⟨fun n z => ⟨fun k h => (by cases h), k5, m6, c5, m7⟩, ⟨k5, c5, m6, m7, m5, m8⟩⟩
  | k + 5, hq => simp [tys] at hq
def ML0 : Mm := jnM MC0 (fun _ _ => 0)
theorem law_start24 {p : Program} {e : Env} {s : State} {m : MethodId} {below : List Frame} {meth : Method} {c : Code} (l : Launch) (hflags : l.flags = flags0) {b L : Nat} {xs : Nat → Int32} (hL : L ≤ 260) (C0 : lw_At p s m meth c b L xs) (hf : ∃ r, f_L_law L xs ML0 = some r) : W p l e room_1 s m #[Value.ref b] below meth c s.heap [] 0 0 (lw_Z below #[Value.ref b] s) (entryFrame m ([Value.ref b] : List Value).toArray 10) := by
  obtain ⟨hx, hb, hr, hml, hown, htb, hX, hbl, hlocks, hgv⟩ := id C0
  have hl : l.stackTraces = false := by unfold Launch.stackTraces; rw [hflags]; decide +kernel
  have hts : ∀ w ∈ LW, w.before #[Value.ref b] s = true := fun w hw => htb w (LW_tbl w hw)
  have hLX : ∀ w ∈ LX, w.before #[Value.ref b] s = true := fun w hw => htb w (LX_tbl w hw)
  have hao0 : va_AO RX0 s := va_AO.of (htb _ AO0_tbl)
  have hao4 : va_AO RX4 s := va_AO.of (htb _ AO4_tbl)
  have hN : Nw_ s := fun q hq => va_Nw.of rfl (htb _ (NL_tbl q hq))
  have hKX := kx_start htb hgv
  obtain ⟨D, hK⟩ := known hts hao0 hao4
  have hown9 : s.vm.findClass RL = some m.cls := hown
  have hl9 := lv_entry ([.ref b]) (n := 10) (Nat.le_of_ble_eq_true rfl)
  rw [lg_entry_eq]
  generalize (lg_sl ([.ref b]) ++ List.replicate (10 - (lg_sl ([.ref b])).length) Slot.unset).toArray = ls at hl9 ⊢
  have hl9 : lv_has ls 10 [(0, .ref b)] := hl9
  have hK11 := hK.1 11 _ rfl
  refine W.newcK hx hb hown9 (hts _ lw971) (hts _ lw972) (hts _ lw19) rfl dL_law_0 (Nat.le_of_ble_eq_true rfl) (Nat.le_of_ble_eq_true rfl) hK11.2.1 rfl fun H1 kC hkC e1 z1 o1 => ?_
  have hW1 : Wd D (TK TC) 1 s.heap.size (MI TC) H1 := born (sl := [(3, 0), (3, 0), (3, 0), (3, 0), (3, 0), (3, 0), (3, 0), (3, 0), (3, 0), (3, 0), (3, 0)]) hts hK fc11 tck0 rfl hdfX11 hkC e1
  have hS1 : va_S (FB s.heap.size) s.heap H1 [] := ⟨by rw [z1]; exact Nat.le_succ _, fun q h1 _ => o1 q h1, fun _ h => by cases h⟩
  refine lv_dup hx hb dL_law_3 rfl ?_
  refine va_callv (A1 := FB s.heap.size) (free := FB s.heap.size) (va_runI (As := []) (rest := [.ref s.heap.size]) (b := s.heap.size) (g := F0 m 4 ls [.ref s.heap.size, .ref s.heap.size]) (nL := 10) ⟨hx, hb, hml, hown9, hts⟩ (ok_X11_init l D s.heap.size (MI TC) (MI_fresh TC 1)) (cwI 0 hts (good_call (y := .tt) (ws := []) (pre := []) (fun w hw => by cases hw) lw682) rfl rfl rfl (hts _ lw19) (hts _ lw973) (hts _ lw974) rfl cy_X11_init ⟨Nat.le_of_ble_eq_true rfl, Nat.le_of_ble_eq_true rfl⟩) ⟨PcN_blind, fun U hU hWm => ⟨rfl, by rw [hU, z1], by rw [hU]; exact hW1, va_K.moved hWm.alike hK, fun z hz => va_Nw.warmM hWm (hN z hz), hao0.moved hWm.alike, hao4.moved hWm.alike⟩⟩ rfl rfl hl9.1 rfl (Nat.le_of_ble_eq_true rfl) dL_law_4 ⟨Nat.le_of_ble_eq_true rfl, Nat.le_of_ble_eq_true rfl⟩) hS1 (fun q _ h => h) (fun q h => h) (fun u t H2 locs2 ht hvm hp hB hz2 hk2 hS2 => ?_)
  rw [ht] at hB
  obtain ⟨hW2, hZ2⟩ := hB
  have hWC : Wd D TC 681 s.heap.size MC0 H2 := Wd_conv hW2 MC0_ok
  have hWL : Wd D TL 681 s.heap.size ML0 H2 := by
    have e : Ws D TL 681 s.heap.size ML0 = Ws D TC 681 s.heap.size MC0 := List.map_congr_left (fun k hk => by
      have hk := List.mem_range.mp hk
      rw [TL_lt hk, show ML0 k = MC0 k from if_pos hk])
    refine ⟨by rw [e]; exact hWC.1, fun k hk i => ?_⟩
    rw [TL_lt hk, show ML0 k = MC0 k from if_pos hk]
    exact hWC.2 k hk i
  refine lv_astore_n (lv' := [(1, .ref (s.heap.size + 0)), (0, .ref b)]) hx hb dL_law_7 rfl hl9 (by decide) rfl (fun ls hl9 => ?_)
  have X : Cx p s m #[Value.ref b] c cL_law D 10 RL := ⟨hx, hb, hml, hown9, hts, hK, hN⟩
  have Y : Yq s #[Value.ref b] b s.heap.size L xs := ⟨hLX, hKX, hX, hbl, Nat.le_refl _⟩
  obtain ⟨r, hf⟩ := hf
  refine (?_ : Gn p l e room_1 s m #[Value.ref b] below meth c D TL 681 s.heap.size 10 681 20000 (lw_Z below #[Value.ref b] s) ML0 8 [(1, .ref (s.heap.size + 0)), (0, .ref b)] []) H2 locs2 ls hWL hZ2 hS2 hl9 |> W.widen (Nat.le_of_ble_eq_true rfl) (Nat.le_of_ble_eq_true rfl)
  refine gn_bipush (v := 10) X dL_law_8 (by decide) ?_
  refine gn_newarr_int (len := 10) X dL_law_10 lw4 tl681 (fun i => rfl) rfl (by decide) ⟨Nat.le_of_ble_eq_true rfl, Nat.le_of_ble_eq_true rfl⟩ ?_
  refine gn_astore_n (L' := [(2, .ref (s.heap.size + 681)), (1, .ref (s.heap.size + 0)), (0, .ref b)]) X dL_law_12 rfl (by decide) rfl ?_
  refine gn_bipush (v := 30) X dL_law_13 (by decide) ?_
  refine gn_newarr_int (len := 30) X dL_law_15 lw4 tl682 (fun i => rfl) rfl (by decide) ⟨Nat.le_of_ble_eq_true rfl, Nat.le_of_ble_eq_true rfl⟩ ?_
  refine gn_astore_n (L' := [(3, .ref (s.heap.size + 682)), (2, .ref (s.heap.size + 681)), (1, .ref (s.heap.size + 0)), (0, .ref b)]) X dL_law_17 rfl (by decide) rfl ?_
  refine gn_bipush (v := 6) X dL_law_18 (by decide) ?_
  refine gn_newarr_int (len := 6) X dL_law_20 lw4 tl683 (fun i => rfl) rfl (by decide) ⟨Nat.le_of_ble_eq_true rfl, Nat.le_of_ble_eq_true rfl⟩ ?_
  refine gn_astore (L' := [(4, .ref (s.heap.size + 683)), (3, .ref (s.heap.size + 682)), (2, .ref (s.heap.size + 681)), (1, .ref (s.heap.size + 0)), (0, .ref b)]) X dL_law_22 (by decide) rfl ?_
  refine gn_bipush (v := 11) X dL_law_24 (by decide) ?_
  refine gn_newarr_int (len := 11) X dL_law_26 lw4 tl684 (fun i => rfl) rfl (by decide) ⟨Nat.le_of_ble_eq_true rfl, Nat.le_of_ble_eq_true rfl⟩ ?_
  refine gn_astore (L' := [(5, .ref (s.heap.size + 684)), (4, .ref (s.heap.size + 683)), (3, .ref (s.heap.size + 682)), (2, .ref (s.heap.size + 681)), (1, .ref (s.heap.size + 0)), (0, .ref b)]) X dL_law_28 (by decide) rfl ?_
  refine gn_bipush (v := 30) X dL_law_30 (by decide) ?_
  refine gn_newarr_int (len := 30) X dL_law_32 lw4 tl685 (fun i => rfl) rfl (by decide) ⟨Nat.le_of_ble_eq_true rfl, Nat.le_of_ble_eq_true rfl⟩ ?_
  refine gn_astore (L' := [(6, .ref (s.heap.size + 685)), (5, .ref (s.heap.size + 684)), (4, .ref (s.heap.size + 683)), (3, .ref (s.heap.size + 682)), (2, .ref (s.heap.size + 681)), (1, .ref (s.heap.size + 0)), (0, .ref b)]) X dL_law_34 (by decide) rfl ?_
  intro H locs ls hW hz hS hlv
  have hS' : va_S (FA s.heap.size 686 s.heap.size) s.heap H locs := ⟨hS.1, fun q h1 h2 => hS.2.1 q h1 (fun h => h2 (Or.inr h)), fun q hq => Or.inr (hS.2.2 q hq)⟩
  refine W.widen (k := 700) (n := 34200) (Nat.le_of_ble_eq_true rfl) (Nat.le_of_ble_eq_true rfl) ?_
  exact ok_L_law hl hL X Y (Nat.le_refl _) hr hlocks ML0 r hf H locs ls hW hS' (lv_sub hlv [6, 5, 4, 3, 2, 1, 0] rfl)
