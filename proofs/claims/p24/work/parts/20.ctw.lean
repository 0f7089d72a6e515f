def appl (U : List (Nat × Nat × Int)) (M : Mm) : Mm := U.foldl (fun M q => up M q.1 q.2.1 q.2.2) M
def Fresh (T : Nat → Ck) (M : Mm) (n : Nat) : Prop := ∀ k, n ≤ k → ∀ i, M k i = mi (T k) i
theorem Fresh.up {T : Nat → Ck} {M : Mm} {n h i : Nat} {v : Int} (hF : Fresh T M n) (hh : h < n) : Fresh T (up M h i v) n := by
  intro k hk j
  rw [up_ne M i v (by omega)]
  exact hF k hk j
theorem Fresh.mono {T : Nat → Ck} {M : Mm} {n n' : Nat} (hF : Fresh T M n) (hh : n ≤ n') : Fresh T M n' := fun k hk => hF k (Nat.le_trans hh hk)
theorem Fresh.appl {T : Nat → Ck} {n : Nat} : ∀ (U : List (Nat × Nat × Int)) {M : Mm}, Fresh T M n → (∀ q ∈ U, q.1 < n) → Fresh T (appl U M) n
  | [], M, hF, _ => hF
  | q :: U, M, hF, h => Fresh.appl U (hF.up (h q List.mem_cons_self)) (fun z hz => h z (List.mem_cons_of_mem _ hz))
theorem tck0 : TK TC 0 = (0, 11, [(3, 0), (3, 0), (3, 0), (3, 0), (3, 0), (3, 0), (3, 0), (3, 0), (3, 0), (3, 0), (3, 0)]) := by decide +kernel
theorem tck1 : TK TC 1 = (0, 5, [(0, 0), (0, 0), (3, 0), (3, 0), (3, 0), (3, 0), (3, 0), (3, 0), (3, 0), (3, 0), (3, 0), (3, 0), (3, 0), (3, 0)]) := by decide +kernel
theorem tck2 : TK TC 2 = (1, 10, []) := by decide +kernel
theorem tck3 : TK TC 3 = (1, 10, []) := by decide +kernel
theorem tck4 : TK TC 4 = (1, 30, []) := by decide +kernel
theorem tck5 : TK TC 5 = (1, 10, []) := by decide +kernel
theorem tck6 : TK TC 6 = (1, 30, []) := by decide +kernel
theorem tck7 : TK TC 7 = (1, 10, []) := by decide +kernel
theorem tck8 : TK TC 8 = (1, 30, []) := by decide +kernel
theorem tck9 : TK TC 9 = (1, 10, []) := by decide +kernel
theorem tck10 : TK TC 10 = (1, 30, []) := by decide +kernel
theorem tck11 : TK TC 11 = (1, 10, []) := by decide +kernel
theorem tck12 : TK TC 12 = (1, 10, []) := by decide +kernel
theorem tck13 : TK TC 13 = (1, 6, []) := by decide +kernel
theorem tck14 : TK TC 14 = (0, 0, [(0, 0), (0, 0), (0, 0), (0, 0), (0, 0), (0, 0), (3, 0), (3, 0), (3, 0), (3, 0), (3, 0), (3, 0), (3, 0)]) := by decide +kernel
theorem tck15 : TK TC 15 = (1, 8, []) := by decide +kernel
theorem tck16 : TK TC 16 = (1, 8, []) := by decide +kernel
theorem tck17 : TK TC 17 = (1, 8, []) := by decide +kernel
theorem tck18 : TK TC 18 = (1, 8, []) := by decide +kernel
theorem tck19 : TK TC 19 = (1, 8, []) := by decide +kernel
theorem tck20 : TK TC 20 = (1, 8, []) := by decide +kernel
theorem tck21 : TK TC 21 = (1, 8, []) := by decide +kernel
theorem tck22 : TK TC 22 = (0, 10, [(3, 0), (3, 0), (3, 0)]) := by decide +kernel
theorem tck23 : TK TC 23 = (1, 40, []) := by decide +kernel
theorem tck24 : TK TC 24 = (1, 120, []) := by decide +kernel
theorem tck25 : TK TC 25 = (0, 1, [(0, 0), (3, 0), (3, 0), (3, 0), (3, 0), (3, 0), (3, 0), (3, 0), (3, 0), (3, 0)]) := by decide +kernel
theorem tck26 : TK TC 26 = (4, 30, []) := by decide +kernel
theorem tck27 : TK TC 27 = (2, 4, []) := by decide +kernel
theorem tck28 : TK TC 28 = (1, 240, []) := by decide +kernel
theorem tck29 : TK TC 29 = (1, 240, []) := by decide +kernel
theorem tck30 : TK TC 30 = (1, 240, []) := by decide +kernel
theorem tck31 : TK TC 31 = (1, 60, []) := by decide +kernel
theorem tck32 : TK TC 32 = (1, 30, []) := by decide +kernel
theorem tck273 : TK TC 273 = (0, 9, [(0, 0), (3, 0), (3, 0), (3, 0), (3, 0), (0, 0), (0, 0), (3, 0), (3, 0), (3, 0), (3, 0), (3, 0), (3, 0)]) := by decide +kernel
theorem tck274 : TK TC 274 = (1, 12, []) := by decide +kernel
theorem tck275 : TK TC 275 = (1, 1690, []) := by decide +kernel
theorem tck276 : TK TC 276 = (1, 1690, []) := by decide +kernel
theorem tck277 : TK TC 277 = (1, 90, []) := by decide +kernel
theorem tck278 : TK TC 278 = (1, 90, []) := by decide +kernel
theorem tck279 : TK TC 279 = (1, 90, []) := by decide +kernel
theorem tck280 : TK TC 280 = (1, 90, []) := by decide +kernel
theorem tck281 : TK TC 281 = (1, 90, []) := by decide +kernel
theorem tck282 : TK TC 282 = (1, 4, []) := by decide +kernel
theorem tck283 : TK TC 283 = (0, 8, [(0, 0), (0, 0), (3, 0), (3, 0), (3, 0), (3, 0), (3, 0), (3, 0), (3, 0)]) := by decide +kernel
theorem tck284 : TK TC 284 = (1, 30, []) := by decide +kernel
theorem tck285 : TK TC 285 = (1, 30, []) := by decide +kernel
theorem tck286 : TK TC 286 = (1, 30, []) := by decide +kernel
theorem tck287 : TK TC 287 = (1, 30, []) := by decide +kernel
theorem tck288 : TK TC 288 = (1, 90, []) := by decide +kernel
theorem tck289 : TK TC 289 = (1, 30, []) := by decide +kernel
theorem tck290 : TK TC 290 = (1, 30, []) := by decide +kernel
theorem tck291 : TK TC 291 = (0, 8, [(0, 0), (0, 0), (3, 0), (3, 0), (3, 0), (3, 0), (3, 0), (3, 0), (3, 0)]) := by decide +kernel
theorem tck292 : TK TC 292 = (1, 30, []) := by decide +kernel
theorem tck293 : TK TC 293 = (1, 30, []) := by decide +kernel
theorem tck294 : TK TC 294 = (1, 30, []) := by decide +kernel
theorem tck295 : TK TC 295 = (1, 30, []) := by decide +kernel
theorem tck296 : TK TC 296 = (1, 90, []) := by decide +kernel
theorem tck297 : TK TC 297 = (1, 30, []) := by decide +kernel
theorem tck298 : TK TC 298 = (1, 30, []) := by decide +kernel
theorem tck299 : TK TC 299 = (0, 3, [(0, 0), (3, 0), (3, 0), (3, 0), (3, 0)]) := by decide +kernel
theorem tck300 : TK TC 300 = (1, 180, []) := by decide +kernel
theorem tck301 : TK TC 301 = (1, 180, []) := by decide +kernel
theorem tck302 : TK TC 302 = (1, 180, []) := by decide +kernel
theorem tck303 : TK TC 303 = (1, 180, []) := by decide +kernel
theorem tck304 : TK TC 304 = (0, 3, [(0, 0), (3, 0), (3, 0), (3, 0), (3, 0)]) := by decide +kernel
theorem tck305 : TK TC 305 = (1, 180, []) := by decide +kernel
theorem tck306 : TK TC 306 = (1, 180, []) := by decide +kernel
theorem tck307 : TK TC 307 = (1, 180, []) := by decide +kernel
theorem tck308 : TK TC 308 = (1, 180, []) := by decide +kernel
theorem tck309 : TK TC 309 = (1, 180, []) := by decide +kernel
theorem tck310 : TK TC 310 = (0, 2, [(0, 0), (3, 0), (3, 0), (3, 0), (3, 0), (3, 0), (3, 0), (3, 0), (3, 0), (0, 0), (0, 0), (1, 0), (3, 0)]) := by decide +kernel
theorem tck311 : TK TC 311 = (1, 180, []) := by decide +kernel
theorem tck312 : TK TC 312 = (6, 181, []) := by decide +kernel
theorem tck313 : TK TC 313 = (2, 180, []) := by decide +kernel
theorem tck676 : TK TC 676 = (0, 7, [(3, 0), (3, 0), (3, 0), (3, 0), (3, 0), (3, 0), (1, 0)]) := by decide +kernel
theorem tck677 : TK TC 677 = (1, 180, []) := by decide +kernel
theorem tck678 : TK TC 678 = (0, 6, [(3, 0), (3, 0), (3, 0), (3, 0), (3, 0)]) := by decide +kernel
theorem tck679 : TK TC 679 = (1, 24, []) := by decide +kernel
theorem tck680 : TK TC 680 = (1, 24, []) := by decide +kernel
theorem tkE {h : Nat} (z : isE h) : TK TC h = (0, 0, [(0, 0), (0, 0), (0, 0), (0, 0), (0, 0), (0, 0), (3, 0), (3, 0), (3, 0), (3, 0), (3, 0), (3, 0), (3, 0)]) := by show tk (TC h) = _; rw [tE z]; rfl
theorem tkEa1 {h : Nat} (z : isE h) : TK TC (h + 1) = (1, 8, []) := by show tk (TC (h + 1)) = _; rw [tEa1 z]; rfl
theorem tkEa2 {h : Nat} (z : isE h) : TK TC (h + 2) = (1, 8, []) := by show tk (TC (h + 2)) = _; rw [tEa2 z]; rfl
theorem tkEa3 {h : Nat} (z : isE h) : TK TC (h + 3) = (1, 8, []) := by show tk (TC (h + 3)) = _; rw [tEa3 z]; rfl
theorem tkEa4 {h : Nat} (z : isE h) : TK TC (h + 4) = (1, 8, []) := by show tk (TC (h + 4)) = _; rw [tEa4 z]; rfl
theorem tkEa5 {h : Nat} (z : isE h) : TK TC (h + 5) = (1, 8, []) := by show tk (TC (h + 5)) = _; rw [tEa5 z]; rfl
theorem tkEa6 {h : Nat} (z : isE h) : TK TC (h + 6) = (1, 8, []) := by show tk (TC (h + 6)) = _; rw [tEa6 z]; rfl
theorem tkEa7 {h : Nat} (z : isE h) : TK TC (h + 7) = (1, 8, []) := by show tk (TC (h + 7)) = _; rw [tEa7 z]; rfl
theorem tkT {h : Nat} (z : isT h) : TK TC h = (0, 8, [(0, 0), (0, 0), (3, 0), (3, 0), (3, 0), (3, 0), (3, 0), (3, 0), (3, 0)]) := by show tk (TC h) = _; rw [tT z]; rfl
theorem tkTa1 {h : Nat} (z : isT h) : TK TC (h + 1) = (1, 30, []) := by show tk (TC (h + 1)) = _; rw [tTa1 z]; rfl
theorem tkTa2 {h : Nat} (z : isT h) : TK TC (h + 2) = (1, 30, []) := by show tk (TC (h + 2)) = _; rw [tTa2 z]; rfl
theorem tkTa3 {h : Nat} (z : isT h) : TK TC (h + 3) = (1, 30, []) := by show tk (TC (h + 3)) = _; rw [tTa3 z]; rfl
theorem tkTa4 {h : Nat} (z : isT h) : TK TC (h + 4) = (1, 30, []) := by show tk (TC (h + 4)) = _; rw [tTa4 z]; rfl
theorem tkTa5 {h : Nat} (z : isT h) : TK TC (h + 5) = (1, 90, []) := by show tk (TC (h + 5)) = _; rw [tTa5 z]; rfl
theorem tkTa6 {h : Nat} (z : isT h) : TK TC (h + 6) = (1, 30, []) := by show tk (TC (h + 6)) = _; rw [tTa6 z]; rfl
theorem tkTa7 {h : Nat} (z : isT h) : TK TC (h + 7) = (1, 30, []) := by show tk (TC (h + 7)) = _; rw [tTa7 z]; rfl
theorem tkF {h : Nat} (z : isF h) : TK TC h = (0, 3, [(0, 0), (3, 0), (3, 0), (3, 0), (3, 0)]) := by show tk (TC h) = _; rw [tF z]; rfl
theorem tkFa1 {h : Nat} (z : isF h) : TK TC (h + 1) = (1, 180, []) := by show tk (TC (h + 1)) = _; rw [tFa1 z]; rfl
theorem tkFa2 {h : Nat} (z : isF h) : TK TC (h + 2) = (1, 180, []) := by show tk (TC (h + 2)) = _; rw [tFa2 z]; rfl
theorem tkFa3 {h : Nat} (z : isF h) : TK TC (h + 3) = (1, 180, []) := by show tk (TC (h + 3)) = _; rw [tFa3 z]; rfl
theorem tkFa4 {h : Nat} (z : isF h) : TK TC (h + 4) = (1, 180, []) := by show tk (TC (h + 4)) = _; rw [tFa4 z]; rfl
theorem tkR {h : Nat} (z : isR h) : TK TC h = (0, 4, [(0, 0), (0, 0), (0, 0), (0, 0), (0, 0), (3, 0), (0, 0), (0, 0), (0, 0), (1, 0), (0, 0), (1, 0), (0, 0), (3, 0)]) := by show tk (TC h) = _; rw [tR z]; rfl
theorem tkRa1 {h : Nat} (z : isR h) : TK TC (h + 1) = (1, 8, []) := by show tk (TC (h + 1)) = _; rw [tRa1 z]; rfl
theorem hdfX0 : ∀ j, j < 13 → kdOk (tyX0 j) (([(0, 0), (0, 0), (0, 0), (0, 0), (0, 0), (0, 0), (3, 0), (3, 0), (3, 0), (3, 0), (3, 0), (3, 0), (3, 0)] : List (Nat × Nat)).getD j (0, 0)) = true := by decide +kernel
theorem hdfX1 : ∀ j, j < 10 → kdOk (tyX1 j) (([(0, 0), (3, 0), (3, 0), (3, 0), (3, 0), (3, 0), (3, 0), (3, 0), (3, 0), (3, 0)] : List (Nat × Nat)).getD j (0, 0)) = true := by decide +kernel
theorem hdfX2 : ∀ j, j < 13 → kdOk (tyX2 j) (([(0, 0), (3, 0), (3, 0), (3, 0), (3, 0), (3, 0), (3, 0), (3, 0), (3, 0), (0, 0), (0, 0), (1, 0), (3, 0)] : List (Nat × Nat)).getD j (0, 0)) = true := by decide +kernel
theorem hdfX3 : ∀ j, j < 5 → kdOk (tyX3 j) (([(0, 0), (3, 0), (3, 0), (3, 0), (3, 0)] : List (Nat × Nat)).getD j (0, 0)) = true := by decide +kernel
theorem hdfX4 : ∀ j, j < 14 → kdOk (tyX4 j) (([(0, 0), (0, 0), (0, 0), (0, 0), (0, 0), (3, 0), (0, 0), (0, 0), (0, 0), (1, 0), (0, 0), (1, 0), (0, 0), (3, 0)] : List (Nat × Nat)).getD j (0, 0)) = true := by decide +kernel
theorem hdfX5 : ∀ j, j < 14 → kdOk (tyX5 j) (([(0, 0), (0, 0), (3, 0), (3, 0), (3, 0), (3, 0), (3, 0), (3, 0), (3, 0), (3, 0), (3, 0), (3, 0), (3, 0), (3, 0)] : List (Nat × Nat)).getD j (0, 0)) = true := by decide +kernel
theorem hdfX6 : ∀ j, j < 5 → kdOk (tyX6 j) (([(3, 0), (3, 0), (3, 0), (3, 0), (3, 0)] : List (Nat × Nat)).getD j (0, 0)) = true := by decide +kernel
theorem hdfX7 : ∀ j, j < 7 → kdOk (tyX7 j) (([(3, 0), (3, 0), (3, 0), (3, 0), (3, 0), (3, 0), (1, 0)] : List (Nat × Nat)).getD j (0, 0)) = true := by decide +kernel
theorem hdfX8 : ∀ j, j < 9 → kdOk (tyX8 j) (([(0, 0), (0, 0), (3, 0), (3, 0), (3, 0), (3, 0), (3, 0), (3, 0), (3, 0)] : List (Nat × Nat)).getD j (0, 0)) = true := by decide +kernel
theorem hdfX9 : ∀ j, j < 13 → kdOk (tyX9 j) (([(0, 0), (3, 0), (3, 0), (3, 0), (3, 0), (0, 0), (0, 0), (3, 0), (3, 0), (3, 0), (3, 0), (3, 0), (3, 0)] : List (Nat × Nat)).getD j (0, 0)) = true := by decide +kernel
theorem hdfX10 : ∀ j, j < 3 → kdOk (tyX10 j) (([(3, 0), (3, 0), (3, 0)] : List (Nat × Nat)).getD j (0, 0)) = true := by decide +kernel
theorem hdfX11 : ∀ j, j < 11 → kdOk (tyX11 j) (([(3, 0), (3, 0), (3, 0), (3, 0), (3, 0), (3, 0), (3, 0), (3, 0), (3, 0), (3, 0), (3, 0)] : List (Nat × Nat)).getD j (0, 0)) = true := by decide +kernel
def mX0_init (h : Nat) (M : Mm) : Mm := up (up (up (up (up (up (up (M) h 6 ((h + 1 : Nat) : Int)) h 7 ((h + 2 : Nat) : Int)) h 8 ((h + 3 : Nat) : Int)) h 9 ((h + 4 : Nat) : Int)) h 10 ((h + 5 : Nat) : Int)) h 11 ((h + 6 : Nat) : Int)) h 12 ((h + 7 : Nat) : Int)
theorem fresh_X0_init {M : Mm} {h : Nat} (z : isE h) (hF : Fresh (TK TC) M (h + 1)) : Fresh (TK TC) (mX0_init h M) (h + 8) := by
  have hF := hF.mono (n' := (h + 8)) (by omega)
  unfold mX0_init
  repeat (first | exact hF | refine Fresh.up ?_ (by omega))
theorem cy_X0_init : yX0_init.cls ≠ "java/lang/invoke/MethodHandle" ∧ yX0_init.cls ≠ "java/lang/invoke/VarHandle" ∧ (parseMethodDescriptor yX0_init.desc).map (fun d => d.parameters.length) = some 0 := ⟨by decide +kernel, by decide +kernel, by decide +kernel⟩
set_option maxRecDepth 20000 in
theorem ok_X0_init (l : Launch) (D : Dd) (base : Nat) (M : Mm) {h : Nat} (z : isE h) (hF : Fresh (TK TC) M (h + 1)) : OkN l D (TK TC) (h + 1) base M (h + 8) (mX0_init h M) yX0_init cX0_init 1 1 12 7 56 [.ref (base + h)] := by
  refine metN (by decide +kernel) [(0, .ref (base + h))] rfl (Nat.le_of_ble_eq_true rfl) rfl (fun p e s m args below meth c X Z hnm hrt hlk => ?_)
  have X : Cx p s m args c cX0_init D 1 RX0 := X
  refine gn_aload_n X dX0_init_0 rfl 0 rfl ?_
  refine gn_objInit X lw1 lw2 lw3 dX0_init_1 ⟨Nat.le_of_ble_eq_true rfl, Nat.le_of_ble_eq_true rfl⟩ ?_
  refine gn_aload_n X dX0_init_4 rfl 0 rfl ?_
  refine gn_bipush (v := 8) X dX0_init_5 (by decide) ?_
  refine gn_newarr_int (len := 8) X dX0_init_7 lw4 (tkEa1 z) (hF _ (Nat.le_refl _)) rfl (by decide) ⟨Nat.le_of_ble_eq_true rfl, Nat.le_of_ble_eq_true rfl⟩ ?_
  have hF := hF.mono (n' := (h + 2)) (by omega)
  refine gn_putF (E := "") (i := 6) X hnm fc0 dX0_init_9 (by omega) (tkE z) (Nat.le_of_ble_eq_true rfl) rfl lw5 rfl rfl rfl (Or.inr rfl) ?_
  have hF := Fresh.up (h := h) (i := 6) (v := ((h + 1 : Nat) : Int)) hF (by omega)
  refine gn_aload_n X dX0_init_12 rfl 0 rfl ?_
  refine gn_bipush (v := 8) X dX0_init_13 (by decide) ?_
  refine gn_newarr_int (len := 8) X dX0_init_15 lw4 (tkEa2 z) (hF _ (Nat.le_refl _)) rfl (by decide) ⟨Nat.le_of_ble_eq_true rfl, Nat.le_of_ble_eq_true rfl⟩ ?_
  have hF := hF.mono (n' := (h + 3)) (by omega)
  refine gn_putF (E := "") (i := 7) X hnm fc0 dX0_init_17 (by omega) (tkE z) (Nat.le_of_ble_eq_true rfl) rfl lw6 rfl rfl rfl (Or.inr rfl) ?_
  have hF := Fresh.up (h := h) (i := 7) (v := ((h + 2 : Nat) : Int)) hF (by omega)
  refine gn_aload_n X dX0_init_20 rfl 0 rfl ?_
  refine gn_bipush (v := 8) X dX0_init_21 (by decide) ?_
  refine gn_newarr_int (len := 8) X dX0_init_23 lw4 (tkEa3 z) (hF _ (Nat.le_refl _)) rfl (by decide) ⟨Nat.le_of_ble_eq_true rfl, Nat.le_of_ble_eq_true rfl⟩ ?_
  have hF := hF.mono (n' := (h + 4)) (by omega)
  refine gn_putF (E := "") (i := 8) X hnm fc0 dX0_init_25 (by omega) (tkE z) (Nat.le_of_ble_eq_true rfl) rfl lw7 rfl rfl rfl (Or.inr rfl) ?_
  have hF := Fresh.up (h := h) (i := 8) (v := ((h + 3 : Nat) : Int)) hF (by omega)
  refine gn_aload_n X dX0_init_28 rfl 0 rfl ?_
  refine gn_bipush (v := 8) X dX0_init_29 (by decide) ?_
  refine gn_newarr_int (len := 8) X dX0_init_31 lw4 (tkEa4 z) (hF _ (Nat.le_refl _)) rfl (by decide) ⟨Nat.le_of_ble_eq_true rfl, Nat.le_of_ble_eq_true rfl⟩ ?_
  have hF := hF.mono (n' := (h + 5)) (by omega)
  refine gn_putF (E := "") (i := 9) X hnm fc0 dX0_init_33 (by omega) (tkE z) (Nat.le_of_ble_eq_true rfl) rfl lw8 rfl rfl rfl (Or.inr rfl) ?_
  have hF := Fresh.up (h := h) (i := 9) (v := ((h + 4 : Nat) : Int)) hF (by omega)
  refine gn_aload_n X dX0_init_36 rfl 0 rfl ?_
  refine gn_bipush (v := 8) X dX0_init_37 (by decide) ?_
  refine gn_newarr_int (len := 8) X dX0_init_39 lw4 (tkEa5 z) (hF _ (Nat.le_refl _)) rfl (by decide) ⟨Nat.le_of_ble_eq_true rfl, Nat.le_of_ble_eq_true rfl⟩ ?_
  have hF := hF.mono (n' := (h + 6)) (by omega)
  refine gn_putF (E := "") (i := 10) X hnm fc0 dX0_init_41 (by omega) (tkE z) (Nat.le_of_ble_eq_true rfl) rfl lw9 rfl rfl rfl (Or.inr rfl) ?_
  have hF := Fresh.up (h := h) (i := 10) (v := ((h + 5 : Nat) : Int)) hF (by omega)
  refine gn_aload_n X dX0_init_44 rfl 0 rfl ?_
  refine gn_bipush (v := 8) X dX0_init_45 (by decide) ?_
  refine gn_newarr_int (len := 8) X dX0_init_47 lw4 (tkEa6 z) (hF _ (Nat.le_refl _)) rfl (by decide) ⟨Nat.le_of_ble_eq_true rfl, Nat.le_of_ble_eq_true rfl⟩ ?_
  have hF := hF.mono (n' := (h + 7)) (by omega)
  refine gn_putF (E := "") (i := 11) X hnm fc0 dX0_init_49 (by omega) (tkE z) (Nat.le_of_ble_eq_true rfl) rfl lw10 rfl rfl rfl (Or.inr rfl) ?_
  have hF := Fresh.up (h := h) (i := 11) (v := ((h + 6 : Nat) : Int)) hF (by omega)
  refine gn_aload_n X dX0_init_52 rfl 0 rfl ?_
  refine gn_bipush (v := 8) X dX0_init_53 (by decide) ?_
  refine gn_newarr_int (len := 8) X dX0_init_55 lw4 (tkEa7 z) (hF _ (Nat.le_refl _)) rfl (by decide) ⟨Nat.le_of_ble_eq_true rfl, Nat.le_of_ble_eq_true rfl⟩ ?_
  have hF := hF.mono (n' := (h + 8)) (by omega)
  refine gn_putF (E := "") (i := 12) X hnm fc0 dX0_init_57 (by omega) (tkE z) (Nat.le_of_ble_eq_true rfl) rfl lw11 rfl rfl rfl (Or.inr rfl) ?_
  have hF := Fresh.up (h := h) (i := 12) (v := ((h + 7 : Nat) : Int)) hF (by omega)
  exact gn_return X hrt hlk dX0_init_60 (Nat.le_of_ble_eq_true rfl) (Nat.le_of_ble_eq_true rfl)
def mX4_init (h : Nat) (M : Mm) : Mm := up (M) h 13 ((h + 1 : Nat) : Int)
theorem fresh_X4_init {M : Mm} {h : Nat} (z : isR h) (hF : Fresh (TK TC) M (h + 1)) : Fresh (TK TC) (mX4_init h M) (h + 2) := by
  have hF := hF.mono (n' := (h + 2)) (by omega)
  unfold mX4_init
  repeat (first | exact hF | refine Fresh.up ?_ (by omega))
theorem cy_X4_init : yX4_init.cls ≠ "java/lang/invoke/MethodHandle" ∧ yX4_init.cls ≠ "java/lang/invoke/VarHandle" ∧ (parseMethodDescriptor yX4_init.desc).map (fun d => d.parameters.length) = some 0 := ⟨by decide +kernel, by decide +kernel, by decide +kernel⟩
set_option maxRecDepth 20000 in
theorem ok_X4_init (l : Launch) (D : Dd) (base : Nat) (M : Mm) {h : Nat} (z : isR h) (hF : Fresh (TK TC) M (h + 1)) : OkN l D (TK TC) (h + 1) base M (h + 2) (mX4_init h M) yX4_init cX4_init 1 1 12 1 8 [.ref (base + h)] := by
  refine metN (by decide +kernel) [(0, .ref (base + h))] rfl (Nat.le_of_ble_eq_true rfl) rfl (fun p e s m args below meth c X Z hnm hrt hlk => ?_)
  have X : Cx p s m args c cX4_init D 1 RX4 := X
  refine gn_aload_n X dX4_init_0 rfl 0 rfl ?_
  refine gn_objInit X lw143 lw2 lw3 dX4_init_1 ⟨Nat.le_of_ble_eq_true rfl, Nat.le_of_ble_eq_true rfl⟩ ?_
  refine gn_aload_n X dX4_init_4 rfl 0 rfl ?_
  refine gn_bipush (v := 8) X dX4_init_5 (by decide) ?_
  refine gn_newarr_int (len := 8) X dX4_init_7 lw4 (tkRa1 z) (hF _ (Nat.le_refl _)) rfl (by decide) ⟨Nat.le_of_ble_eq_true rfl, Nat.le_of_ble_eq_true rfl⟩ ?_
  have hF := hF.mono (n' := (h + 2)) (by omega)
  refine gn_putF (E := "") (i := 13) X hnm fc4 dX4_init_9 (by omega) (tkR z) (Nat.le_of_ble_eq_true rfl) rfl lw144 rfl rfl rfl (Or.inr rfl) ?_
  have hF := Fresh.up (h := h) (i := 13) (v := ((h + 1 : Nat) : Int)) hF (by omega)
  exact gn_return X hrt hlk dX4_init_12 (Nat.le_of_ble_eq_true rfl) (Nat.le_of_ble_eq_true rfl)
def mX8_init (h : Nat) (M : Mm) : Mm := up (up (up (up (up (up (up (M) h 2 ((h + 1 : Nat) : Int)) h 3 ((h + 2 : Nat) : Int)) h 4 ((h + 3 : Nat) : Int)) h 5 ((h + 4 : Nat) : Int)) h 6 ((h + 5 : Nat) : Int)) h 7 ((h + 6 : Nat) : Int)) h 8 ((h + 7 : Nat) : Int)
theorem fresh_X8_init {M : Mm} {h : Nat} (z : isT h) (hF : Fresh (TK TC) M (h + 1)) : Fresh (TK TC) (mX8_init h M) (h + 8) := by
  have hF := hF.mono (n' := (h + 8)) (by omega)
  unfold mX8_init
  repeat (first | exact hF | refine Fresh.up ?_ (by omega))
theorem cy_X8_init : yX8_init.cls ≠ "java/lang/invoke/MethodHandle" ∧ yX8_init.cls ≠ "java/lang/invoke/VarHandle" ∧ (parseMethodDescriptor yX8_init.desc).map (fun d => d.parameters.length) = some 0 := ⟨by decide +kernel, by decide +kernel, by decide +kernel⟩
set_option maxRecDepth 20000 in
theorem ok_X8_init (l : Launch) (D : Dd) (base : Nat) (M : Mm) {h : Nat} (z : isT h) (hF : Fresh (TK TC) M (h + 1)) : OkN l D (TK TC) (h + 1) base M (h + 8) (mX8_init h M) yX8_init cX8_init 1 1 12 7 270 [.ref (base + h)] := by
  refine metN (by decide +kernel) [(0, .ref (base + h))] rfl (Nat.le_of_ble_eq_true rfl) rfl (fun p e s m args below meth c X Z hnm hrt hlk => ?_)
  have X : Cx p s m args c cX8_init D 1 RX8 := X
  refine gn_aload_n X dX8_init_0 rfl 0 rfl ?_
  refine gn_objInit X lw529 lw2 lw3 dX8_init_1 ⟨Nat.le_of_ble_eq_true rfl, Nat.le_of_ble_eq_true rfl⟩ ?_
  refine gn_aload_n X dX8_init_4 rfl 0 rfl ?_
  refine gn_bipush (v := 30) X dX8_init_5 (by decide) ?_
  refine gn_newarr_int (len := 30) X dX8_init_7 lw4 (tkTa1 z) (hF _ (Nat.le_refl _)) rfl (by decide) ⟨Nat.le_of_ble_eq_true rfl, Nat.le_of_ble_eq_true rfl⟩ ?_
  have hF := hF.mono (n' := (h + 2)) (by omega)
  refine gn_putF (E := "") (i := 2) X hnm fc8 dX8_init_9 (by omega) (tkT z) (Nat.le_of_ble_eq_true rfl) rfl lw199 rfl rfl rfl (Or.inr rfl) ?_
  have hF := Fresh.up (h := h) (i := 2) (v := ((h + 1 : Nat) : Int)) hF (by omega)
  refine gn_aload_n X dX8_init_12 rfl 0 rfl ?_
  refine gn_bipush (v := 30) X dX8_init_13 (by decide) ?_
  refine gn_newarr_int (len := 30) X dX8_init_15 lw4 (tkTa2 z) (hF _ (Nat.le_refl _)) rfl (by decide) ⟨Nat.le_of_ble_eq_true rfl, Nat.le_of_ble_eq_true rfl⟩ ?_
  have hF := hF.mono (n' := (h + 3)) (by omega)
  refine gn_putF (E := "") (i := 3) X hnm fc8 dX8_init_17 (by omega) (tkT z) (Nat.le_of_ble_eq_true rfl) rfl lw201 rfl rfl rfl (Or.inr rfl) ?_
  have hF := Fresh.up (h := h) (i := 3) (v := ((h + 2 : Nat) : Int)) hF (by omega)
  refine gn_aload_n X dX8_init_20 rfl 0 rfl ?_
  refine gn_bipush (v := 30) X dX8_init_21 (by decide) ?_
  refine gn_newarr_int (len := 30) X dX8_init_23 lw4 (tkTa3 z) (hF _ (Nat.le_refl _)) rfl (by decide) ⟨Nat.le_of_ble_eq_true rfl, Nat.le_of_ble_eq_true rfl⟩ ?_
  have hF := hF.mono (n' := (h + 4)) (by omega)
  refine gn_putF (E := "") (i := 4) X hnm fc8 dX8_init_25 (by omega) (tkT z) (Nat.le_of_ble_eq_true rfl) rfl lw278 rfl rfl rfl (Or.inr rfl) ?_
  have hF := Fresh.up (h := h) (i := 4) (v := ((h + 3 : Nat) : Int)) hF (by omega)
  refine gn_aload_n X dX8_init_28 rfl 0 rfl ?_
  refine gn_bipush (v := 30) X dX8_init_29 (by decide) ?_
  refine gn_newarr_int (len := 30) X dX8_init_31 lw4 (tkTa4 z) (hF _ (Nat.le_refl _)) rfl (by decide) ⟨Nat.le_of_ble_eq_true rfl, Nat.le_of_ble_eq_true rfl⟩ ?_
  have hF := hF.mono (n' := (h + 5)) (by omega)
  refine gn_putF (E := "") (i := 5) X hnm fc8 dX8_init_33 (by omega) (tkT z) (Nat.le_of_ble_eq_true rfl) rfl lw172 rfl rfl rfl (Or.inr rfl) ?_
  have hF := Fresh.up (h := h) (i := 5) (v := ((h + 4 : Nat) : Int)) hF (by omega)
  refine gn_aload_n X dX8_init_36 rfl 0 rfl ?_
  refine gn_bipush (v := 90) X dX8_init_37 (by decide) ?_
  refine gn_newarr_int (len := 90) X dX8_init_39 lw4 (tkTa5 z) (hF _ (Nat.le_refl _)) rfl (by decide) ⟨Nat.le_of_ble_eq_true rfl, Nat.le_of_ble_eq_true rfl⟩ ?_
  have hF := hF.mono (n' := (h + 6)) (by omega)
  refine gn_putF (E := "") (i := 6) X hnm fc8 dX8_init_41 (by omega) (tkT z) (Nat.le_of_ble_eq_true rfl) rfl lw271 rfl rfl rfl (Or.inr rfl) ?_
  have hF := Fresh.up (h := h) (i := 6) (v := ((h + 5 : Nat) : Int)) hF (by omega)
  refine gn_aload_n X dX8_init_44 rfl 0 rfl ?_
  refine gn_bipush (v := 30) X dX8_init_45 (by decide) ?_
  refine gn_newarr_int (len := 30) X dX8_init_47 lw4 (tkTa6 z) (hF _ (Nat.le_refl _)) rfl (by decide) ⟨Nat.le_of_ble_eq_true rfl, Nat.le_of_ble_eq_true rfl⟩ ?_
  have hF := hF.mono (n' := (h + 7)) (by omega)
  refine gn_putF (E := "") (i := 7) X hnm fc8 dX8_init_49 (by omega) (tkT z) (Nat.le_of_ble_eq_true rfl) rfl lw290 rfl rfl rfl (Or.inr rfl) ?_
  have hF := Fresh.up (h := h) (i := 7) (v := ((h + 6 : Nat) : Int)) hF (by omega)
  refine gn_aload_n X dX8_init_52 rfl 0 rfl ?_
  refine gn_bipush (v := 30) X dX8_init_53 (by decide) ?_
  refine gn_newarr_int (len := 30) X dX8_init_55 lw4 (tkTa7 z) (hF _ (Nat.le_refl _)) rfl (by decide) ⟨Nat.le_of_ble_eq_true rfl, Nat.le_of_ble_eq_true rfl⟩ ?_
  have hF := hF.mono (n' := (h + 8)) (by omega)
  refine gn_putF (E := "") (i := 8) X hnm fc8 dX8_init_57 (by omega) (tkT z) (Nat.le_of_ble_eq_true rfl) rfl lw374 rfl rfl rfl (Or.inr rfl) ?_
  have hF := Fresh.up (h := h) (i := 8) (v := ((h + 7 : Nat) : Int)) hF (by omega)
  exact gn_return X hrt hlk dX8_init_60 (Nat.le_of_ble_eq_true rfl) (Nat.le_of_ble_eq_true rfl)
def mX3_init (h : Nat) (M : Mm) : Mm := up (up (up (up (M) h 1 ((h + 1 : Nat) : Int)) h 2 ((h + 2 : Nat) : Int)) h 3 ((h + 3 : Nat) : Int)) h 4 ((h + 4 : Nat) : Int)
theorem fresh_X3_init {M : Mm} {h : Nat} (z : isF h) (hF : Fresh (TK TC) M (h + 1)) : Fresh (TK TC) (mX3_init h M) (h + 5) := by
  have hF := hF.mono (n' := (h + 5)) (by omega)
  unfold mX3_init
  repeat (first | exact hF | refine Fresh.up ?_ (by omega))
theorem cy_X3_init : yX3_init.cls ≠ "java/lang/invoke/MethodHandle" ∧ yX3_init.cls ≠ "java/lang/invoke/VarHandle" ∧ (parseMethodDescriptor yX3_init.desc).map (fun d => d.parameters.length) = some 0 := ⟨by decide +kernel, by decide +kernel, by decide +kernel⟩
set_option maxRecDepth 20000 in
theorem ok_X3_init (l : Launch) (D : Dd) (base : Nat) (M : Mm) {h : Nat} (z : isF h) (hF : Fresh (TK TC) M (h + 1)) : OkN l D (TK TC) (h + 1) base M (h + 5) (mX3_init h M) yX3_init cX3_init 1 1 12 4 720 [.ref (base + h)] := by
  refine metN (by decide +kernel) [(0, .ref (base + h))] rfl (Nat.le_of_ble_eq_true rfl) rfl (fun p e s m args below meth c X Z hnm hrt hlk => ?_)
  have X : Cx p s m args c cX3_init D 1 RX3 := X
  refine gn_aload_n X dX3_init_0 rfl 0 rfl ?_
  refine gn_objInit X lw367 lw2 lw3 dX3_init_1 ⟨Nat.le_of_ble_eq_true rfl, Nat.le_of_ble_eq_true rfl⟩ ?_
  refine gn_aload_n X dX3_init_4 rfl 0 rfl ?_
  refine gn_sipush (v := 180) X dX3_init_5 (by decide) ?_
  refine gn_newarr_int (len := 180) X dX3_init_8 lw4 (tkFa1 z) (hF _ (Nat.le_refl _)) rfl (by decide) ⟨Nat.le_of_ble_eq_true rfl, Nat.le_of_ble_eq_true rfl⟩ ?_
  have hF := hF.mono (n' := (h + 2)) (by omega)
  refine gn_putF (E := "") (i := 1) X hnm fc3 dX3_init_10 (by omega) (tkF z) (Nat.le_of_ble_eq_true rfl) rfl lw163 rfl rfl rfl (Or.inr rfl) ?_
  have hF := Fresh.up (h := h) (i := 1) (v := ((h + 1 : Nat) : Int)) hF (by omega)
  refine gn_aload_n X dX3_init_13 rfl 0 rfl ?_
  refine gn_sipush (v := 180) X dX3_init_14 (by decide) ?_
  refine gn_newarr_int (len := 180) X dX3_init_17 lw4 (tkFa2 z) (hF _ (Nat.le_refl _)) rfl (by decide) ⟨Nat.le_of_ble_eq_true rfl, Nat.le_of_ble_eq_true rfl⟩ ?_
  have hF := hF.mono (n' := (h + 3)) (by omega)
  refine gn_putF (E := "") (i := 2) X hnm fc3 dX3_init_19 (by omega) (tkF z) (Nat.le_of_ble_eq_true rfl) rfl lw161 rfl rfl rfl (Or.inr rfl) ?_
  have hF := Fresh.up (h := h) (i := 2) (v := ((h + 2 : Nat) : Int)) hF (by omega)
  refine gn_aload_n X dX3_init_22 rfl 0 rfl ?_
  refine gn_sipush (v := 180) X dX3_init_23 (by decide) ?_
  refine gn_newarr_int (len := 180) X dX3_init_26 lw4 (tkFa3 z) (hF _ (Nat.le_refl _)) rfl (by decide) ⟨Nat.le_of_ble_eq_true rfl, Nat.le_of_ble_eq_true rfl⟩ ?_
  have hF := hF.mono (n' := (h + 4)) (by omega)
  refine gn_putF (E := "") (i := 3) X hnm fc3 dX3_init_28 (by omega) (tkF z) (Nat.le_of_ble_eq_true rfl) rfl lw368 rfl rfl rfl (Or.inr rfl) ?_
  have hF := Fresh.up (h := h) (i := 3) (v := ((h + 3 : Nat) : Int)) hF (by omega)
  refine gn_aload_n X dX3_init_31 rfl 0 rfl ?_
  refine gn_sipush (v := 180) X dX3_init_32 (by decide) ?_
  refine gn_newarr_int (len := 180) X dX3_init_35 lw4 (tkFa4 z) (hF _ (Nat.le_refl _)) rfl (by decide) ⟨Nat.le_of_ble_eq_true rfl, Nat.le_of_ble_eq_true rfl⟩ ?_
  have hF := hF.mono (n' := (h + 5)) (by omega)
  refine gn_putF (E := "") (i := 4) X hnm fc3 dX3_init_37 (by omega) (tkF z) (Nat.le_of_ble_eq_true rfl) rfl lw369 rfl rfl rfl (Or.inr rfl) ?_
  have hF := Fresh.up (h := h) (i := 4) (v := ((h + 4 : Nat) : Int)) hF (by omega)
  exact gn_return X hrt hlk dX3_init_40 (Nat.le_of_ble_eq_true rfl) (Nat.le_of_ble_eq_true rfl)
def mX5_init (M : Mm) : Mm := up (up (up (up (up (up (up (up (up (up (up (up (M) 1 2 ((2 : Nat) : Int)) 1 3 ((3 : Nat) : Int)) 1 4 ((4 : Nat) : Int)) 1 5 ((5 : Nat) : Int)) 1 6 ((6 : Nat) : Int)) 1 7 ((7 : Nat) : Int)) 1 8 ((8 : Nat) : Int)) 1 9 ((9 : Nat) : Int)) 1 10 ((10 : Nat) : Int)) 1 11 ((11 : Nat) : Int)) 1 12 ((12 : Nat) : Int)) 1 13 ((13 : Nat) : Int)
theorem fresh_X5_init {M : Mm} (hF : Fresh (TK TC) M 2) : Fresh (TK TC) (mX5_init M) 14 := by
  have hF := hF.mono (n' := 14) (by omega)
  unfold mX5_init
  repeat (first | exact hF | refine Fresh.up ?_ (by omega))
theorem cy_X5_init : yX5_init.cls ≠ "java/lang/invoke/MethodHandle" ∧ yX5_init.cls ≠ "java/lang/invoke/VarHandle" ∧ (parseMethodDescriptor yX5_init.desc).map (fun d => d.parameters.length) = some 0 := ⟨by decide +kernel, by decide +kernel, by decide +kernel⟩
set_option maxRecDepth 20000 in
theorem ok_X5_init (l : Launch) (D : Dd) (base : Nat) (M : Mm) (hF : Fresh (TK TC) M 2) : OkN l D (TK TC) 2 base M 14 (mX5_init M) yX5_init cX5_init 1 1 12 12 196 [.ref (base + 1)] := by
  refine metN (by decide +kernel) [(0, .ref (base + 1))] rfl (Nat.le_of_ble_eq_true rfl) rfl (fun p e s m args below meth c X Z hnm hrt hlk => ?_)
  have X : Cx p s m args c cX5_init D 1 RX5 := X
  refine gn_aload_n X dX5_init_0 rfl 0 rfl ?_
  refine gn_objInit X lw392 lw2 lw3 dX5_init_1 ⟨Nat.le_of_ble_eq_true rfl, Nat.le_of_ble_eq_true rfl⟩ ?_
  refine gn_aload_n X dX5_init_4 rfl 0 rfl ?_
  refine gn_bipush (v := 10) X dX5_init_5 (by decide) ?_
  refine gn_newarr_int (len := 10) X dX5_init_7 lw4 tck2 (hF _ (Nat.le_refl _)) rfl (by decide) ⟨Nat.le_of_ble_eq_true rfl, Nat.le_of_ble_eq_true rfl⟩ ?_
  have hF := hF.mono (n' := 3) (by omega)
  refine gn_putF (E := "") (i := 2) X hnm fc5 dX5_init_9 (Nat.le_of_ble_eq_true rfl) tck1 (Nat.le_of_ble_eq_true rfl) rfl lw393 rfl rfl rfl (Or.inr rfl) ?_
  have hF := Fresh.up (h := 1) (i := 2) (v := ((2 : Nat) : Int)) hF (Nat.le_of_ble_eq_true rfl)
  refine gn_aload_n X dX5_init_12 rfl 0 rfl ?_
  refine gn_bipush (v := 10) X dX5_init_13 (by decide) ?_
  refine gn_newarr_int (len := 10) X dX5_init_15 lw4 tck3 (hF _ (Nat.le_refl _)) rfl (by decide) ⟨Nat.le_of_ble_eq_true rfl, Nat.le_of_ble_eq_true rfl⟩ ?_
  have hF := hF.mono (n' := 4) (by omega)
  refine gn_putF (E := "") (i := 3) X hnm fc5 dX5_init_17 (Nat.le_of_ble_eq_true rfl) tck1 (Nat.le_of_ble_eq_true rfl) rfl lw394 rfl rfl rfl (Or.inr rfl) ?_
  have hF := Fresh.up (h := 1) (i := 3) (v := ((3 : Nat) : Int)) hF (Nat.le_of_ble_eq_true rfl)
  refine gn_aload_n X dX5_init_20 rfl 0 rfl ?_
  refine gn_bipush (v := 30) X dX5_init_21 (by decide) ?_
  refine gn_newarr_int (len := 30) X dX5_init_23 lw4 tck4 (hF _ (Nat.le_refl _)) rfl (by decide) ⟨Nat.le_of_ble_eq_true rfl, Nat.le_of_ble_eq_true rfl⟩ ?_
  have hF := hF.mono (n' := 5) (by omega)
  refine gn_putF (E := "") (i := 4) X hnm fc5 dX5_init_25 (Nat.le_of_ble_eq_true rfl) tck1 (Nat.le_of_ble_eq_true rfl) rfl lw395 rfl rfl rfl (Or.inr rfl) ?_
  have hF := Fresh.up (h := 1) (i := 4) (v := ((4 : Nat) : Int)) hF (Nat.le_of_ble_eq_true rfl)
  refine gn_aload_n X dX5_init_28 rfl 0 rfl ?_
  refine gn_bipush (v := 10) X dX5_init_29 (by decide) ?_
  refine gn_newarr_int (len := 10) X dX5_init_31 lw4 tck5 (hF _ (Nat.le_refl _)) rfl (by decide) ⟨Nat.le_of_ble_eq_true rfl, Nat.le_of_ble_eq_true rfl⟩ ?_
  have hF := hF.mono (n' := 6) (by omega)
  refine gn_putF (E := "") (i := 5) X hnm fc5 dX5_init_33 (Nat.le_of_ble_eq_true rfl) tck1 (Nat.le_of_ble_eq_true rfl) rfl lw68 rfl rfl rfl (Or.inr rfl) ?_
  have hF := Fresh.up (h := 1) (i := 5) (v := ((5 : Nat) : Int)) hF (Nat.le_of_ble_eq_true rfl)
  refine gn_aload_n X dX5_init_36 rfl 0 rfl ?_
  refine gn_bipush (v := 30) X dX5_init_37 (by decide) ?_
  refine gn_newarr_int (len := 30) X dX5_init_39 lw4 tck6 (hF _ (Nat.le_refl _)) rfl (by decide) ⟨Nat.le_of_ble_eq_true rfl, Nat.le_of_ble_eq_true rfl⟩ ?_
  have hF := hF.mono (n' := 7) (by omega)
  refine gn_putF (E := "") (i := 6) X hnm fc5 dX5_init_41 (Nat.le_of_ble_eq_true rfl) tck1 (Nat.le_of_ble_eq_true rfl) rfl lw396 rfl rfl rfl (Or.inr rfl) ?_
  have hF := Fresh.up (h := 1) (i := 6) (v := ((6 : Nat) : Int)) hF (Nat.le_of_ble_eq_true rfl)
  refine gn_aload_n X dX5_init_44 rfl 0 rfl ?_
  refine gn_bipush (v := 10) X dX5_init_45 (by decide) ?_
  refine gn_newarr_int (len := 10) X dX5_init_47 lw4 tck7 (hF _ (Nat.le_refl _)) rfl (by decide) ⟨Nat.le_of_ble_eq_true rfl, Nat.le_of_ble_eq_true rfl⟩ ?_
  have hF := hF.mono (n' := 8) (by omega)
  refine gn_putF (E := "") (i := 7) X hnm fc5 dX5_init_49 (Nat.le_of_ble_eq_true rfl) tck1 (Nat.le_of_ble_eq_true rfl) rfl lw280 rfl rfl rfl (Or.inr rfl) ?_
  have hF := Fresh.up (h := 1) (i := 7) (v := ((7 : Nat) : Int)) hF (Nat.le_of_ble_eq_true rfl)
  refine gn_aload_n X dX5_init_52 rfl 0 rfl ?_
  refine gn_bipush (v := 30) X dX5_init_53 (by decide) ?_
  refine gn_newarr_int (len := 30) X dX5_init_55 lw4 tck8 (hF _ (Nat.le_refl _)) rfl (by decide) ⟨Nat.le_of_ble_eq_true rfl, Nat.le_of_ble_eq_true rfl⟩ ?_
  have hF := hF.mono (n' := 9) (by omega)
  refine gn_putF (E := "") (i := 8) X hnm fc5 dX5_init_57 (Nat.le_of_ble_eq_true rfl) tck1 (Nat.le_of_ble_eq_true rfl) rfl lw281 rfl rfl rfl (Or.inr rfl) ?_
  have hF := Fresh.up (h := 1) (i := 8) (v := ((8 : Nat) : Int)) hF (Nat.le_of_ble_eq_true rfl)
  refine gn_aload_n X dX5_init_60 rfl 0 rfl ?_
  refine gn_bipush (v := 10) X dX5_init_61 (by decide) ?_
  refine gn_newarr_int (len := 10) X dX5_init_63 lw4 tck9 (hF _ (Nat.le_refl _)) rfl (by decide) ⟨Nat.le_of_ble_eq_true rfl, Nat.le_of_ble_eq_true rfl⟩ ?_
  have hF := hF.mono (n' := 10) (by omega)
  refine gn_putF (E := "") (i := 9) X hnm fc5 dX5_init_65 (Nat.le_of_ble_eq_true rfl) tck1 (Nat.le_of_ble_eq_true rfl) rfl lw74 rfl rfl rfl (Or.inr rfl) ?_
  have hF := Fresh.up (h := 1) (i := 9) (v := ((9 : Nat) : Int)) hF (Nat.le_of_ble_eq_true rfl)
  refine gn_aload_n X dX5_init_68 rfl 0 rfl ?_
  refine gn_bipush (v := 30) X dX5_init_69 (by decide) ?_
  refine gn_newarr_int (len := 30) X dX5_init_71 lw4 tck10 (hF _ (Nat.le_refl _)) rfl (by decide) ⟨Nat.le_of_ble_eq_true rfl, Nat.le_of_ble_eq_true rfl⟩ ?_
  have hF := hF.mono (n' := 11) (by omega)
  refine gn_putF (E := "") (i := 10) X hnm fc5 dX5_init_73 (Nat.le_of_ble_eq_true rfl) tck1 (Nat.le_of_ble_eq_true rfl) rfl lw70 rfl rfl rfl (Or.inr rfl) ?_
  have hF := Fresh.up (h := 1) (i := 10) (v := ((10 : Nat) : Int)) hF (Nat.le_of_ble_eq_true rfl)
  refine gn_aload_n X dX5_init_76 rfl 0 rfl ?_
  refine gn_bipush (v := 10) X dX5_init_77 (by decide) ?_
  refine gn_newarr_int (len := 10) X dX5_init_79 lw4 tck11 (hF _ (Nat.le_refl _)) rfl (by decide) ⟨Nat.le_of_ble_eq_true rfl, Nat.le_of_ble_eq_true rfl⟩ ?_
  have hF := hF.mono (n' := 12) (by omega)
  refine gn_putF (E := "") (i := 11) X hnm fc5 dX5_init_81 (Nat.le_of_ble_eq_true rfl) tck1 (Nat.le_of_ble_eq_true rfl) rfl lw397 rfl rfl rfl (Or.inr rfl) ?_
  have hF := Fresh.up (h := 1) (i := 11) (v := ((11 : Nat) : Int)) hF (Nat.le_of_ble_eq_true rfl)
  refine gn_aload_n X dX5_init_84 rfl 0 rfl ?_
  refine gn_bipush (v := 10) X dX5_init_85 (by decide) ?_
  refine gn_newarr_int (len := 10) X dX5_init_87 lw4 tck12 (hF _ (Nat.le_refl _)) rfl (by decide) ⟨Nat.le_of_ble_eq_true rfl, Nat.le_of_ble_eq_true rfl⟩ ?_
  have hF := hF.mono (n' := 13) (by omega)
  refine gn_putF (E := "") (i := 12) X hnm fc5 dX5_init_89 (Nat.le_of_ble_eq_true rfl) tck1 (Nat.le_of_ble_eq_true rfl) rfl lw398 rfl rfl rfl (Or.inr rfl) ?_
  have hF := Fresh.up (h := 1) (i := 12) (v := ((12 : Nat) : Int)) hF (Nat.le_of_ble_eq_true rfl)
  refine gn_aload_n X dX5_init_92 rfl 0 rfl ?_
  refine gn_bipush (v := 6) X dX5_init_93 (by decide) ?_
  refine gn_newarr_int (len := 6) X dX5_init_95 lw4 tck13 (hF _ (Nat.le_refl _)) rfl (by decide) ⟨Nat.le_of_ble_eq_true rfl, Nat.le_of_ble_eq_true rfl⟩ ?_
  have hF := hF.mono (n' := 14) (by omega)
  refine gn_putF (E := "") (i := 13) X hnm fc5 dX5_init_97 (Nat.le_of_ble_eq_true rfl) tck1 (Nat.le_of_ble_eq_true rfl) rfl lw170 rfl rfl rfl (Or.inr rfl) ?_
  have hF := Fresh.up (h := 1) (i := 13) (v := ((13 : Nat) : Int)) hF (Nat.le_of_ble_eq_true rfl)
  exact gn_return X hrt hlk dX5_init_100 (Nat.le_of_ble_eq_true rfl) (Nat.le_of_ble_eq_true rfl)
def mX10_init (M : Mm) : Mm := up (up (up (M) 22 1 ((23 : Nat) : Int)) 22 2 ((24 : Nat) : Int)) 22 0 ((1 : Nat) : Int)
theorem fresh_X10_init {M : Mm} (hF : Fresh (TK TC) M 23) : Fresh (TK TC) (mX10_init M) 25 := by
  have hF := hF.mono (n' := 25) (by omega)
  unfold mX10_init
  repeat (first | exact hF | refine Fresh.up ?_ (by omega))
theorem cy_X10_init : yX10_init.cls ≠ "java/lang/invoke/MethodHandle" ∧ yX10_init.cls ≠ "java/lang/invoke/VarHandle" ∧ (parseMethodDescriptor yX10_init.desc).map (fun d => d.parameters.length) = some 1 := ⟨by decide +kernel, by decide +kernel, by decide +kernel⟩
set_option maxRecDepth 20000 in
theorem ok_X10_init (l : Launch) (D : Dd) (base : Nat) (M : Mm) (hF : Fresh (TK TC) M 23) : OkN l D (TK TC) 23 base M 25 (mX10_init M) yX10_init cX10_init 2 1 12 2 160 [.ref (base + 22), .ref (base + 1)] := by
  refine metN (by decide +kernel) [(0, .ref (base + 22)), (1, .ref (base + 1))] rfl (Nat.le_of_ble_eq_true rfl) rfl (fun p e s m args below meth c X Z hnm hrt hlk => ?_)
  have X : Cx p s m args c cX10_init D 2 RX10 := X
  refine gn_aload_n X dX10_init_0 rfl 0 rfl ?_
  refine gn_objInit X lw635 lw2 lw3 dX10_init_1 ⟨Nat.le_of_ble_eq_true rfl, Nat.le_of_ble_eq_true rfl⟩ ?_
  refine gn_aload_n X dX10_init_4 rfl 0 rfl ?_
  refine gn_bipush (v := 40) X dX10_init_5 (by decide) ?_
  refine gn_newarr_int (len := 40) X dX10_init_7 lw4 tck23 (hF _ (Nat.le_refl _)) rfl (by decide) ⟨Nat.le_of_ble_eq_true rfl, Nat.le_of_ble_eq_true rfl⟩ ?_
  have hF := hF.mono (n' := 24) (by omega)
  refine gn_putF (E := "") (i := 1) X hnm fc10 dX10_init_9 (Nat.le_of_ble_eq_true rfl) tck22 (Nat.le_of_ble_eq_true rfl) rfl lw75 rfl rfl rfl (Or.inr rfl) ?_
  have hF := Fresh.up (h := 22) (i := 1) (v := ((23 : Nat) : Int)) hF (Nat.le_of_ble_eq_true rfl)
  refine gn_aload_n X dX10_init_12 rfl 0 rfl ?_
  refine gn_bipush (v := 120) X dX10_init_13 (by decide) ?_
  refine gn_newarr_int (len := 120) X dX10_init_15 lw4 tck24 (hF _ (Nat.le_refl _)) rfl (by decide) ⟨Nat.le_of_ble_eq_true rfl, Nat.le_of_ble_eq_true rfl⟩ ?_
  have hF := hF.mono (n' := 25) (by omega)
  refine gn_putF (E := "") (i := 2) X hnm fc10 dX10_init_17 (Nat.le_of_ble_eq_true rfl) tck22 (Nat.le_of_ble_eq_true rfl) rfl lw72 rfl rfl rfl (Or.inr rfl) ?_
  have hF := Fresh.up (h := 22) (i := 2) (v := ((24 : Nat) : Int)) hF (Nat.le_of_ble_eq_true rfl)
  refine gn_aload_n X dX10_init_20 rfl 0 rfl ?_
  refine gn_aload_n X dX10_init_21 rfl 1 rfl ?_
  refine gn_putF (t9 := .int) (i := 0) X hnm fc10 dX10_init_22 (Nat.le_of_ble_eq_true rfl) tck22 (Nat.le_of_ble_eq_true rfl) rfl lw76 rfl rfl rfl (Or.inl rfl) ?_
  have hF := Fresh.up (h := 22) (i := 0) (v := ((1 : Nat) : Int)) hF (Nat.le_of_ble_eq_true rfl)
  exact gn_return X hrt hlk dX10_init_25 (Nat.le_of_ble_eq_true rfl) (Nat.le_of_ble_eq_true rfl)
def mX9_init (M : Mm) : Mm := up (up (up (up (up (up (up (up (up (up (M) 273 2 ((274 : Nat) : Int)) 273 3 ((275 : Nat) : Int)) 273 4 ((276 : Nat) : Int)) 273 7 ((277 : Nat) : Int)) 273 8 ((278 : Nat) : Int)) 273 9 ((279 : Nat) : Int)) 273 10 ((280 : Nat) : Int)) 273 11 ((281 : Nat) : Int)) 273 12 ((282 : Nat) : Int)) 273 1 ((1 : Nat) : Int)
theorem fresh_X9_init {M : Mm} (hF : Fresh (TK TC) M 274) : Fresh (TK TC) (mX9_init M) 283 := by
  have hF := hF.mono (n' := 283) (by omega)
  unfold mX9_init
  repeat (first | exact hF | refine Fresh.up ?_ (by omega))
theorem cy_X9_init : yX9_init.cls ≠ "java/lang/invoke/MethodHandle" ∧ yX9_init.cls ≠ "java/lang/invoke/VarHandle" ∧ (parseMethodDescriptor yX9_init.desc).map (fun d => d.parameters.length) = some 1 := ⟨by decide +kernel, by decide +kernel, by decide +kernel⟩
set_option maxRecDepth 20000 in
theorem ok_X9_init (l : Launch) (D : Dd) (base : Nat) (M : Mm) (hF : Fresh (TK TC) M 274) : OkN l D (TK TC) 274 base M 283 (mX9_init M) yX9_init cX9_init 2 1 12 9 3846 [.ref (base + 273), .ref (base + 1)] := by
  refine metN (by decide +kernel) [(0, .ref (base + 273)), (1, .ref (base + 1))] rfl (Nat.le_of_ble_eq_true rfl) rfl (fun p e s m args below meth c X Z hnm hrt hlk => ?_)
  have X : Cx p s m args c cX9_init D 2 RX9 := X
  refine gn_aload_n X dX9_init_0 rfl 0 rfl ?_
  refine gn_objInit X lw551 lw2 lw3 dX9_init_1 ⟨Nat.le_of_ble_eq_true rfl, Nat.le_of_ble_eq_true rfl⟩ ?_
  refine gn_aload_n X dX9_init_4 rfl 0 rfl ?_
  refine gn_bipush (v := 12) X dX9_init_5 (by decide) ?_
  refine gn_newarr_int (len := 12) X dX9_init_7 lw4 tck274 (hF _ (Nat.le_refl _)) rfl (by decide) ⟨Nat.le_of_ble_eq_true rfl, Nat.le_of_ble_eq_true rfl⟩ ?_
  have hF := hF.mono (n' := 275) (by omega)
  refine gn_putF (E := "") (i := 2) X hnm fc9 dX9_init_9 (Nat.le_of_ble_eq_true rfl) tck273 (Nat.le_of_ble_eq_true rfl) rfl lw552 rfl rfl rfl (Or.inr rfl) ?_
  have hF := Fresh.up (h := 273) (i := 2) (v := ((274 : Nat) : Int)) hF (Nat.le_of_ble_eq_true rfl)
  refine gn_aload_n X dX9_init_12 rfl 0 rfl ?_
  refine gn_sipush (v := 1690) X dX9_init_13 (by decide) ?_
  refine gn_newarr_int (len := 1690) X dX9_init_16 lw4 tck275 (hF _ (Nat.le_refl _)) rfl (by decide) ⟨Nat.le_of_ble_eq_true rfl, Nat.le_of_ble_eq_true rfl⟩ ?_
  have hF := hF.mono (n' := 276) (by omega)
  refine gn_putF (E := "") (i := 3) X hnm fc9 dX9_init_18 (Nat.le_of_ble_eq_true rfl) tck273 (Nat.le_of_ble_eq_true rfl) rfl lw553 rfl rfl rfl (Or.inr rfl) ?_
  have hF := Fresh.up (h := 273) (i := 3) (v := ((275 : Nat) : Int)) hF (Nat.le_of_ble_eq_true rfl)
  refine gn_aload_n X dX9_init_21 rfl 0 rfl ?_
  refine gn_sipush (v := 1690) X dX9_init_22 (by decide) ?_
  refine gn_newarr_int (len := 1690) X dX9_init_25 lw4 tck276 (hF _ (Nat.le_refl _)) rfl (by decide) ⟨Nat.le_of_ble_eq_true rfl, Nat.le_of_ble_eq_true rfl⟩ ?_
  have hF := hF.mono (n' := 277) (by omega)
  refine gn_putF (E := "") (i := 4) X hnm fc9 dX9_init_27 (Nat.le_of_ble_eq_true rfl) tck273 (Nat.le_of_ble_eq_true rfl) rfl lw554 rfl rfl rfl (Or.inr rfl) ?_
  have hF := Fresh.up (h := 273) (i := 4) (v := ((276 : Nat) : Int)) hF (Nat.le_of_ble_eq_true rfl)
  refine gn_aload_n X dX9_init_30 rfl 0 rfl ?_
  refine gn_bipush (v := 90) X dX9_init_31 (by decide) ?_
  refine gn_newarr_int (len := 90) X dX9_init_33 lw4 tck277 (hF _ (Nat.le_refl _)) rfl (by decide) ⟨Nat.le_of_ble_eq_true rfl, Nat.le_of_ble_eq_true rfl⟩ ?_
  have hF := hF.mono (n' := 278) (by omega)
  refine gn_putF (E := "") (i := 7) X hnm fc9 dX9_init_35 (Nat.le_of_ble_eq_true rfl) tck273 (Nat.le_of_ble_eq_true rfl) rfl lw555 rfl rfl rfl (Or.inr rfl) ?_
  have hF := Fresh.up (h := 273) (i := 7) (v := ((277 : Nat) : Int)) hF (Nat.le_of_ble_eq_true rfl)
  refine gn_aload_n X dX9_init_38 rfl 0 rfl ?_
  refine gn_bipush (v := 90) X dX9_init_39 (by decide) ?_
  refine gn_newarr_int (len := 90) X dX9_init_41 lw4 tck278 (hF _ (Nat.le_refl _)) rfl (by decide) ⟨Nat.le_of_ble_eq_true rfl, Nat.le_of_ble_eq_true rfl⟩ ?_
  have hF := hF.mono (n' := 279) (by omega)
  refine gn_putF (E := "") (i := 8) X hnm fc9 dX9_init_43 (Nat.le_of_ble_eq_true rfl) tck273 (Nat.le_of_ble_eq_true rfl) rfl lw556 rfl rfl rfl (Or.inr rfl) ?_
  have hF := Fresh.up (h := 273) (i := 8) (v := ((278 : Nat) : Int)) hF (Nat.le_of_ble_eq_true rfl)
  refine gn_aload_n X dX9_init_46 rfl 0 rfl ?_
  refine gn_bipush (v := 90) X dX9_init_47 (by decide) ?_
  refine gn_newarr_int (len := 90) X dX9_init_49 lw4 tck279 (hF _ (Nat.le_refl _)) rfl (by decide) ⟨Nat.le_of_ble_eq_true rfl, Nat.le_of_ble_eq_true rfl⟩ ?_
  have hF := hF.mono (n' := 280) (by omega)
  refine gn_putF (E := "") (i := 9) X hnm fc9 dX9_init_51 (Nat.le_of_ble_eq_true rfl) tck273 (Nat.le_of_ble_eq_true rfl) rfl lw557 rfl rfl rfl (Or.inr rfl) ?_
  have hF := Fresh.up (h := 273) (i := 9) (v := ((279 : Nat) : Int)) hF (Nat.le_of_ble_eq_true rfl)
  refine gn_aload_n X dX9_init_54 rfl 0 rfl ?_
  refine gn_bipush (v := 90) X dX9_init_55 (by decide) ?_
  refine gn_newarr_int (len := 90) X dX9_init_57 lw4 tck280 (hF _ (Nat.le_refl _)) rfl (by decide) ⟨Nat.le_of_ble_eq_true rfl, Nat.le_of_ble_eq_true rfl⟩ ?_
  have hF := hF.mono (n' := 281) (by omega)
  refine gn_putF (E := "") (i := 10) X hnm fc9 dX9_init_59 (Nat.le_of_ble_eq_true rfl) tck273 (Nat.le_of_ble_eq_true rfl) rfl lw558 rfl rfl rfl (Or.inr rfl) ?_
  have hF := Fresh.up (h := 273) (i := 10) (v := ((280 : Nat) : Int)) hF (Nat.le_of_ble_eq_true rfl)
  refine gn_aload_n X dX9_init_62 rfl 0 rfl ?_
  refine gn_bipush (v := 90) X dX9_init_63 (by decide) ?_
  refine gn_newarr_int (len := 90) X dX9_init_65 lw4 tck281 (hF _ (Nat.le_refl _)) rfl (by decide) ⟨Nat.le_of_ble_eq_true rfl, Nat.le_of_ble_eq_true rfl⟩ ?_
  have hF := hF.mono (n' := 282) (by omega)
  refine gn_putF (E := "") (i := 11) X hnm fc9 dX9_init_67 (Nat.le_of_ble_eq_true rfl) tck273 (Nat.le_of_ble_eq_true rfl) rfl lw559 rfl rfl rfl (Or.inr rfl) ?_
  have hF := Fresh.up (h := 273) (i := 11) (v := ((281 : Nat) : Int)) hF (Nat.le_of_ble_eq_true rfl)
  refine gn_aload_n X dX9_init_70 rfl 0 rfl ?_
  refine gn_iconst (v := 4) X dX9_init_71 rfl ?_
  refine gn_newarr_int (len := 4) X dX9_init_72 lw4 tck282 (hF _ (Nat.le_refl _)) rfl (by decide) ⟨Nat.le_of_ble_eq_true rfl, Nat.le_of_ble_eq_true rfl⟩ ?_
  have hF := hF.mono (n' := 283) (by omega)
  refine gn_putF (E := "") (i := 12) X hnm fc9 dX9_init_74 (Nat.le_of_ble_eq_true rfl) tck273 (Nat.le_of_ble_eq_true rfl) rfl lw560 rfl rfl rfl (Or.inr rfl) ?_
  have hF := Fresh.up (h := 273) (i := 12) (v := ((282 : Nat) : Int)) hF (Nat.le_of_ble_eq_true rfl)
  refine gn_aload_n X dX9_init_77 rfl 0 rfl ?_
  refine gn_aload_n X dX9_init_78 rfl 1 rfl ?_
  refine gn_putF (t9 := .int) (i := 1) X hnm fc9 dX9_init_79 (Nat.le_of_ble_eq_true rfl) tck273 (Nat.le_of_ble_eq_true rfl) rfl lw561 rfl rfl rfl (Or.inl rfl) ?_
  have hF := Fresh.up (h := 273) (i := 1) (v := ((1 : Nat) : Int)) hF (Nat.le_of_ble_eq_true rfl)
  exact gn_return X hrt hlk dX9_init_82 (Nat.le_of_ble_eq_true rfl) (Nat.le_of_ble_eq_true rfl)
def mX7_init (M : Mm) : Mm := up (up (up (up (up (up (M) 676 5 ((677 : Nat) : Int)) 676 0 ((1 : Nat) : Int)) 676 1 ((283 : Nat) : Int)) 676 2 ((310 : Nat) : Int)) 676 3 ((304 : Nat) : Int)) 676 4 ((309 : Nat) : Int)
theorem fresh_X7_init {M : Mm} (hF : Fresh (TK TC) M 677) : Fresh (TK TC) (mX7_init M) 678 := by
  have hF := hF.mono (n' := 678) (by omega)
  unfold mX7_init
  repeat (first | exact hF | refine Fresh.up ?_ (by omega))
theorem cy_X7_init : yX7_init.cls ≠ "java/lang/invoke/MethodHandle" ∧ yX7_init.cls ≠ "java/lang/invoke/VarHandle" ∧ (parseMethodDescriptor yX7_init.desc).map (fun d => d.parameters.length) = some 5 := ⟨by decide +kernel, by decide +kernel, by decide +kernel⟩
set_option maxRecDepth 20000 in
theorem ok_X7_init (l : Launch) (D : Dd) (base : Nat) (M : Mm) (hF : Fresh (TK TC) M 677) : OkN l D (TK TC) 677 base M 678 (mX7_init M) yX7_init cX7_init 6 1 12 1 180 [.ref (base + 676), .ref (base + 1), .ref (base + 283), .ref (base + 310), .ref (base + 304), .ref (base + 309)] := by
  refine metN (by decide +kernel) [(0, .ref (base + 676)), (1, .ref (base + 1)), (2, .ref (base + 283)), (3, .ref (base + 310)), (4, .ref (base + 304)), (5, .ref (base + 309))] rfl (Nat.le_of_ble_eq_true rfl) rfl (fun p e s m args below meth c X Z hnm hrt hlk => ?_)
  have X : Cx p s m args c cX7_init D 6 RX7 := X
  refine gn_aload_n X dX7_init_0 rfl 0 rfl ?_
  refine gn_objInit X lw503 lw2 lw3 dX7_init_1 ⟨Nat.le_of_ble_eq_true rfl, Nat.le_of_ble_eq_true rfl⟩ ?_
  refine gn_aload_n X dX7_init_4 rfl 0 rfl ?_
  refine gn_sipush (v := 180) X dX7_init_5 (by decide) ?_
  refine gn_newarr_int (len := 180) X dX7_init_8 lw4 tck677 (hF _ (Nat.le_refl _)) rfl (by decide) ⟨Nat.le_of_ble_eq_true rfl, Nat.le_of_ble_eq_true rfl⟩ ?_
  have hF := hF.mono (n' := 678) (by omega)
  refine gn_putF (E := "") (i := 5) X hnm fc7 dX7_init_10 (Nat.le_of_ble_eq_true rfl) tck676 (Nat.le_of_ble_eq_true rfl) rfl lw504 rfl rfl rfl (Or.inr rfl) ?_
  have hF := Fresh.up (h := 676) (i := 5) (v := ((677 : Nat) : Int)) hF (Nat.le_of_ble_eq_true rfl)
  refine gn_aload_n X dX7_init_13 rfl 0 rfl ?_
  refine gn_aload_n X dX7_init_14 rfl 1 rfl ?_
  refine gn_putF (t9 := .int) (i := 0) X hnm fc7 dX7_init_15 (Nat.le_of_ble_eq_true rfl) tck676 (Nat.le_of_ble_eq_true rfl) rfl lw505 rfl rfl rfl (Or.inl rfl) ?_
  have hF := Fresh.up (h := 676) (i := 0) (v := ((1 : Nat) : Int)) hF (Nat.le_of_ble_eq_true rfl)
  refine gn_aload_n X dX7_init_18 rfl 0 rfl ?_
  refine gn_aload_n X dX7_init_19 rfl 2 rfl ?_
  refine gn_putF (t9 := .int) (i := 1) X hnm fc7 dX7_init_20 (Nat.le_of_ble_eq_true rfl) tck676 (Nat.le_of_ble_eq_true rfl) rfl lw506 rfl rfl rfl (Or.inl rfl) ?_
  have hF := Fresh.up (h := 676) (i := 1) (v := ((283 : Nat) : Int)) hF (Nat.le_of_ble_eq_true rfl)
  refine gn_aload_n X dX7_init_23 rfl 0 rfl ?_
  refine gn_aload_n X dX7_init_24 rfl 3 rfl ?_
  refine gn_putF (t9 := .int) (i := 2) X hnm fc7 dX7_init_25 (Nat.le_of_ble_eq_true rfl) tck676 (Nat.le_of_ble_eq_true rfl) rfl lw507 rfl rfl rfl (Or.inl rfl) ?_
  have hF := Fresh.up (h := 676) (i := 2) (v := ((310 : Nat) : Int)) hF (Nat.le_of_ble_eq_true rfl)
  refine gn_aload_n X dX7_init_28 rfl 0 rfl ?_
  refine gn_aload X dX7_init_29 4 rfl ?_
  refine gn_putF (t9 := .int) (i := 3) X hnm fc7 dX7_init_31 (Nat.le_of_ble_eq_true rfl) tck676 (Nat.le_of_ble_eq_true rfl) rfl lw508 rfl rfl rfl (Or.inl rfl) ?_
  have hF := Fresh.up (h := 676) (i := 3) (v := ((304 : Nat) : Int)) hF (Nat.le_of_ble_eq_true rfl)
  refine gn_aload_n X dX7_init_34 rfl 0 rfl ?_
  refine gn_aload X dX7_init_35 5 rfl ?_
  refine gn_putF (E := "") (i := 4) X hnm fc7 dX7_init_37 (Nat.le_of_ble_eq_true rfl) tck676 (Nat.le_of_ble_eq_true rfl) rfl lw509 rfl rfl rfl (Or.inr rfl) ?_
  have hF := Fresh.up (h := 676) (i := 4) (v := ((309 : Nat) : Int)) hF (Nat.le_of_ble_eq_true rfl)
  exact gn_return X hrt hlk dX7_init_40 (Nat.le_of_ble_eq_true rfl) (Nat.le_of_ble_eq_true rfl)
def mX6_init (M : Mm) : Mm := up (up (up (up (up (M) 678 3 ((679 : Nat) : Int)) 678 4 ((680 : Nat) : Int)) 678 0 ((1 : Nat) : Int)) 678 1 ((25 : Nat) : Int)) 678 2 ((22 : Nat) : Int)
theorem fresh_X6_init {M : Mm} (hF : Fresh (TK TC) M 679) : Fresh (TK TC) (mX6_init M) 681 := by
  have hF := hF.mono (n' := 681) (by omega)
  unfold mX6_init
  repeat (first | exact hF | refine Fresh.up ?_ (by omega))
theorem cy_X6_init : yX6_init.cls ≠ "java/lang/invoke/MethodHandle" ∧ yX6_init.cls ≠ "java/lang/invoke/VarHandle" ∧ (parseMethodDescriptor yX6_init.desc).map (fun d => d.parameters.length) = some 3 := ⟨by decide +kernel, by decide +kernel, by decide +kernel⟩
set_option maxRecDepth 20000 in
theorem ok_X6_init (l : Launch) (D : Dd) (base : Nat) (M : Mm) (hF : Fresh (TK TC) M 679) : OkN l D (TK TC) 679 base M 681 (mX6_init M) yX6_init cX6_init 4 1 12 2 48 [.ref (base + 678), .ref (base + 1), .ref (base + 25), .ref (base + 22)] := by
  refine metN (by decide +kernel) [(0, .ref (base + 678)), (1, .ref (base + 1)), (2, .ref (base + 25)), (3, .ref (base + 22))] rfl (Nat.le_of_ble_eq_true rfl) rfl (fun p e s m args below meth c X Z hnm hrt hlk => ?_)
  have X : Cx p s m args c cX6_init D 4 RX6 := X
  refine gn_aload_n X dX6_init_0 rfl 0 rfl ?_
  refine gn_objInit X lw432 lw2 lw3 dX6_init_1 ⟨Nat.le_of_ble_eq_true rfl, Nat.le_of_ble_eq_true rfl⟩ ?_
  refine gn_aload_n X dX6_init_4 rfl 0 rfl ?_
  refine gn_bipush (v := 24) X dX6_init_5 (by decide) ?_
  refine gn_newarr_int (len := 24) X dX6_init_7 lw4 tck679 (hF _ (Nat.le_refl _)) rfl (by decide) ⟨Nat.le_of_ble_eq_true rfl, Nat.le_of_ble_eq_true rfl⟩ ?_
  have hF := hF.mono (n' := 680) (by omega)
  refine gn_putF (E := "") (i := 3) X hnm fc6 dX6_init_9 (Nat.le_of_ble_eq_true rfl) tck678 (Nat.le_of_ble_eq_true rfl) rfl lw433 rfl rfl rfl (Or.inr rfl) ?_
  have hF := Fresh.up (h := 678) (i := 3) (v := ((679 : Nat) : Int)) hF (Nat.le_of_ble_eq_true rfl)
  refine gn_aload_n X dX6_init_12 rfl 0 rfl ?_
  refine gn_bipush (v := 24) X dX6_init_13 (by decide) ?_
  refine gn_newarr_int (len := 24) X dX6_init_15 lw4 tck680 (hF _ (Nat.le_refl _)) rfl (by decide) ⟨Nat.le_of_ble_eq_true rfl, Nat.le_of_ble_eq_true rfl⟩ ?_
  have hF := hF.mono (n' := 681) (by omega)
  refine gn_putF (E := "") (i := 4) X hnm fc6 dX6_init_17 (Nat.le_of_ble_eq_true rfl) tck678 (Nat.le_of_ble_eq_true rfl) rfl lw434 rfl rfl rfl (Or.inr rfl) ?_
  have hF := Fresh.up (h := 678) (i := 4) (v := ((680 : Nat) : Int)) hF (Nat.le_of_ble_eq_true rfl)
  refine gn_aload_n X dX6_init_20 rfl 0 rfl ?_
  refine gn_aload_n X dX6_init_21 rfl 1 rfl ?_
  refine gn_putF (t9 := .int) (i := 0) X hnm fc6 dX6_init_22 (Nat.le_of_ble_eq_true rfl) tck678 (Nat.le_of_ble_eq_true rfl) rfl lw435 rfl rfl rfl (Or.inl rfl) ?_
  have hF := Fresh.up (h := 678) (i := 0) (v := ((1 : Nat) : Int)) hF (Nat.le_of_ble_eq_true rfl)
  refine gn_aload_n X dX6_init_25 rfl 0 rfl ?_
  refine gn_aload_n X dX6_init_26 rfl 2 rfl ?_
  refine gn_putF (t9 := .int) (i := 1) X hnm fc6 dX6_init_27 (Nat.le_of_ble_eq_true rfl) tck678 (Nat.le_of_ble_eq_true rfl) rfl lw436 rfl rfl rfl (Or.inl rfl) ?_
  have hF := Fresh.up (h := 678) (i := 1) (v := ((25 : Nat) : Int)) hF (Nat.le_of_ble_eq_true rfl)
  refine gn_aload_n X dX6_init_30 rfl 0 rfl ?_
  refine gn_aload_n X dX6_init_31 rfl 3 rfl ?_
  refine gn_putF (t9 := .int) (i := 2) X hnm fc6 dX6_init_32 (Nat.le_of_ble_eq_true rfl) tck678 (Nat.le_of_ble_eq_true rfl) rfl lw437 rfl rfl rfl (Or.inl rfl) ?_
  have hF := Fresh.up (h := 678) (i := 2) (v := ((22 : Nat) : Int)) hF (Nat.le_of_ble_eq_true rfl)
  exact gn_return X hrt hlk dX6_init_35 (Nat.le_of_ble_eq_true rfl) (Nat.le_of_ble_eq_true rfl)
theorem ne_X0_init {h k : Nat} (M : Mm) (hk : k ≠ h) : mX0_init h M k = M k := by unfold mX0_init; simp only [up_ne _ _ _ hk]
theorem ne_X4_init {h k : Nat} (M : Mm) (hk : k ≠ h) : mX4_init h M k = M k := by unfold mX4_init; simp only [up_ne _ _ _ hk]
theorem ne_X8_init {h k : Nat} (M : Mm) (hk : k ≠ h) : mX8_init h M k = M k := by unfold mX8_init; simp only [up_ne _ _ _ hk]
theorem ne_X3_init {h k : Nat} (M : Mm) (hk : k ≠ h) : mX3_init h M k = M k := by unfold mX3_init; simp only [up_ne _ _ _ hk]
theorem ne_X5_init {k : Nat} (M : Mm) (hk : k ≠ 1) : mX5_init M k = M k := by unfold mX5_init; simp only [up_ne _ _ _ hk]
theorem ne_X10_init {k : Nat} (M : Mm) (hk : k ≠ 22) : mX10_init M k = M k := by unfold mX10_init; simp only [up_ne _ _ _ hk]
theorem ne_X9_init {k : Nat} (M : Mm) (hk : k ≠ 273) : mX9_init M k = M k := by unfold mX9_init; simp only [up_ne _ _ _ hk]
theorem ne_X7_init {k : Nat} (M : Mm) (hk : k ≠ 676) : mX7_init M k = M k := by unfold mX7_init; simp only [up_ne _ _ _ hk]
theorem ne_X6_init {k : Nat} (M : Mm) (hk : k ≠ 678) : mX6_init M k = M k := by unfold mX6_init; simp only [up_ne _ _ _ hk]
def mX1_init_pre (M : Mm) : Mm := up (up (up (up (up (up (up (up (up (M) 25 1 ((26 : Nat) : Int)) 25 2 ((27 : Nat) : Int)) 25 5 ((28 : Nat) : Int)) 25 6 ((29 : Nat) : Int)) 25 7 ((30 : Nat) : Int)) 25 8 ((31 : Nat) : Int)) 25 9 ((32 : Nat) : Int)) 25 3 ((1 : Nat) : Int)) 25 4 ((22 : Nat) : Int)
def qX1_init : Nat → Mm → Mm
  | 0, M => M
  | i + 1, M => up (mX0_init (33 + 8 * i) (qX1_init i M)) 26 i ((33 + 8 * i : Nat) : Int)
def mX1_init (M : Mm) : Mm := qX1_init 30 (mX1_init_pre M)
theorem qX1_init_lt {k : Nat} (hk : k < 26) : ∀ (i : Nat) (M : Mm), qX1_init i M k = M k
  | 0, M => rfl
  | i + 1, M => by
    show up (mX0_init (33 + 8 * i) (qX1_init i M)) 26 i _ k = _
    rw [up_ne _ _ _ (by omega), ne_X0_init _ (by omega), qX1_init_lt hk i M]
theorem qX1_init_fr {M : Mm} (hF : Fresh (TK TC) M 33) : ∀ i, i ≤ 30 → Fresh (TK TC) (qX1_init i M) (33 + 8 * i)
  | 0, _ => hF
  | i + 1, hi => (Fresh.up (fresh_X0_init (h := 33 + 8 * i) (show isE _ by first | (right; refine ⟨?_, ?_, ?_⟩ <;> omega) | (refine ⟨?_, ?_, ?_⟩ <;> omega)) ((qX1_init_fr hF i (by omega)).mono (Nat.le_succ _))) (by omega)).mono (by omega)
theorem fresh_X1_init_pre {M : Mm} (hF : Fresh (TK TC) M 26) : Fresh (TK TC) (mX1_init_pre M) 33 := by
  have hF := hF.mono (n' := 33) (by omega)
  unfold mX1_init_pre
  repeat (first | exact hF | refine Fresh.up ?_ (by omega))
theorem fresh_X1_init {M : Mm} (hF : Fresh (TK TC) M 26) : Fresh (TK TC) (mX1_init M) 273 := qX1_init_fr (fresh_X1_init_pre hF) 30 (Nat.le_refl _)
theorem cy_X1_init : yX1_init.cls ≠ "java/lang/invoke/MethodHandle" ∧ yX1_init.cls ≠ "java/lang/invoke/VarHandle" ∧ (parseMethodDescriptor yX1_init.desc).map (fun d => d.parameters.length) = some 2 := ⟨by decide +kernel, by decide +kernel, by decide +kernel⟩
set_option maxRecDepth 20000 in
theorem ok_X1_init (l : Launch) (D : Dd) (base : Nat) (M : Mm) (hF : Fresh (TK TC) M 26) : OkN l D (TK TC) 26 base M 273 (mX1_init M) yX1_init cX1_init 4 2 32 247 2914 [.ref (base + 25), .ref (base + 1), .ref (base + 22)] := by
  refine metN (by decide +kernel) [(0, .ref (base + 25)), (1, .ref (base + 1)), (2, .ref (base + 22))] rfl (Nat.le_of_ble_eq_true rfl) rfl (fun p e s m args below meth c X Z hnm hrt hlk => ?_)
  have X : Cx p s m args c cX1_init D 4 RX1 := X
  have loop : ∀ d i : Nat, i + d = 30 → Gn p l e (rmX 2 32 247 2914) s m args below meth c D (TK TC) (33 + 8 * i) base 4 (7 + 8 * i) (844 + 69 * i) (FinN D (TK TC) base 273 (mX1_init M) 247 2914 below args s) (qX1_init i (mX1_init_pre M)) 75 [(0, .ref (base + 25)), (1, .ref (base + 1)), (2, .ref (base + 22)), (3, .int (Ii ((i : Nat) : Int)))] [] := by
    intro d
    induction d with
    | zero =>
      intro i hi
      have hi9 : i32 ((i : Nat) : Int) := by unfold i32; omega
      have hrow : qX1_init i (mX1_init_pre M) 25 1 = ((26 : Nat) : Int) := by rw [qX1_init_lt (by omega)]; simp [mX1_init_pre, up]
      refine gn_iload_n X dX1_init_75 rfl 3 rfl ?_
      refine gn_aload_n X dX1_init_76 rfl 0 rfl ?_
      refine gn_getq (i := 1) (v := 26) X fc1 dX1_init_77 (by omega) tck25 (Nat.le_of_ble_eq_true rfl) rfl lw44 rfl hrow ?_
      refine gn_alen X dX1_init_80 (by omega) tck26 (Or.inl rfl) ?_
      refine gn_icmp_ge (tgt := 103) X dX1_init_81 rfl hi9 kI_30 (fun c9 => ?_) (fun c9 => ?_)
      · have e9 : i = 30 := by omega
        subst e9
        refine gn_sub [] rfl ?_
        exact gn_return X hrt hlk dX1_init_103 (Nat.le_of_ble_eq_true rfl) (Nat.le_of_ble_eq_true rfl)
      · omega
    | succ d ih =>
      intro i hi
      have hi9 : i32 ((i : Nat) : Int) := by unfold i32; omega
      have hrow : qX1_init i (mX1_init_pre M) 25 1 = ((26 : Nat) : Int) := by rw [qX1_init_lt (by omega)]; simp [mX1_init_pre, up]
      refine gn_iload_n X dX1_init_75 rfl 3 rfl ?_
      refine gn_aload_n X dX1_init_76 rfl 0 rfl ?_
      refine gn_getq (i := 1) (v := 26) X fc1 dX1_init_77 (by omega) tck25 (Nat.le_of_ble_eq_true rfl) rfl lw44 rfl hrow ?_
      refine gn_alen X dX1_init_80 (by omega) tck26 (Or.inl rfl) ?_
      have hF9 := qX1_init_fr (fresh_X1_init_pre hF) i (by omega)
      have z9 := (show isE (33 + 8 * i) by first | (right; refine ⟨?_, ?_, ?_⟩ <;> omega) | (refine ⟨?_, ?_, ?_⟩ <;> omega))
      refine gn_icmp_ge (tgt := 103) X dX1_init_81 rfl hi9 kI_30 (fun c9 => ?_) (fun c9 => ?_)
      · omega
      · refine gn_aload_n X dX1_init_84 rfl 0 rfl ?_
        refine gn_getq (i := 1) (v := 26) X fc1 dX1_init_85 (by omega) tck25 (Nat.le_of_ble_eq_true rfl) rfl lw44 rfl hrow ?_
        refine gn_iload_n X dX1_init_88 rfl 3 rfl ?_
        refine gn_new (sl := [(0, 0), (0, 0), (0, 0), (0, 0), (0, 0), (0, 0), (3, 0), (3, 0), (3, 0), (3, 0), (3, 0), (3, 0), (3, 0)]) X fc0 dX1_init_89 lw43 lw54 lw33 (tkE z9) rfl (hF9 _ (Nat.le_refl _)) hdfX0 ⟨(by simp only [rmX]; omega), (by simp only [rmX]; omega)⟩ ?_
        refine gn_dup X dX1_init_92 rfl ?_
        refine gn_ctorN X Z (ok_X0_init l D base _ z9 (hF9.mono (Nat.le_succ _))) dX1_init_93 nl2 lw55 lw33 ⟨lw0, cy_X0_init, Nat.le_of_ble_eq_true rfl, Nat.le_of_ble_eq_true rfl⟩ rfl rfl rfl (Nat.le_of_ble_eq_true rfl) ⟨(by simp only [rmX]; omega), (by simp only [rmX]; omega)⟩ ?_
        refine gn_aast (ix := 3) X dX1_init_96 (by omega) tck26 (Or.inl ⟨rfl, rfl⟩) rfl (by omega) (tkE z9) rfl hi9 (by omega) ?_
        refine gn_iinc (L' := fun v => [(3, .int (Ii v)), (0, .ref (base + 25)), (1, .ref (base + 1)), (2, .ref (base + 22))]) X dX1_init_97 hi9 kI_1 (j := 3) rfl (by decide) (fun _ => rfl) ?_
        have hw : wr (((i : Nat) : Int) + 1) = ((i + 1 : Nat) : Int) := by rw [wr_eq (by unfold i32; omega)]; rfl
        rw [hw]
        refine gn_goto (tgt := 75) X dX1_init_100 rfl ?_
        refine gn_sub [1, 2, 3, 0] rfl ?_
        refine gn_widen (7 + 8 * (i + 1)) (844 + 69 * (i + 1)) (by omega) (by omega) ?_
        exact ih (i + 1) (by omega)
  refine gn_aload_n X dX1_init_0 rfl 0 rfl ?_
  refine gn_objInit X lw42 lw2 lw3 dX1_init_1 ⟨Nat.le_of_ble_eq_true rfl, Nat.le_of_ble_eq_true rfl⟩ ?_
  refine gn_aload_n X dX1_init_4 rfl 0 rfl ?_
  refine gn_bipush (v := 30) X dX1_init_5 (by decide) ?_
  refine gn_newqE (len := 30) X dX1_init_7 lw43 Z.1 tck26 (hF _ (Nat.le_refl _)) rfl (by decide) ⟨Nat.le_of_ble_eq_true rfl, Nat.le_of_ble_eq_true rfl⟩ ?_
  have hF := hF.mono (n' := 27) (by omega)
  refine gn_putF (E := "") (i := 1) X hnm fc1 dX1_init_10 (Nat.le_of_ble_eq_true rfl) tck25 (Nat.le_of_ble_eq_true rfl) rfl lw44 rfl rfl rfl (Or.inr rfl) ?_
  have hF := Fresh.up (h := 25) (i := 1) (v := ((26 : Nat) : Int)) hF (Nat.le_of_ble_eq_true rfl)
  refine gn_aload_n X dX1_init_13 rfl 0 rfl ?_
  refine gn_iconst (v := 4) X dX1_init_14 rfl ?_
  refine gn_newarr_boolean (len := 4) X dX1_init_15 lw45 tck27 (hF _ (Nat.le_refl _)) rfl (by decide) ⟨Nat.le_of_ble_eq_true rfl, Nat.le_of_ble_eq_true rfl⟩ ?_
  have hF := hF.mono (n' := 28) (by omega)
  refine gn_putF (E := "") (i := 2) X hnm fc1 dX1_init_17 (Nat.le_of_ble_eq_true rfl) tck25 (Nat.le_of_ble_eq_true rfl) rfl lw46 rfl rfl rfl (Or.inr rfl) ?_
  have hF := Fresh.up (h := 25) (i := 2) (v := ((27 : Nat) : Int)) hF (Nat.le_of_ble_eq_true rfl)
  refine gn_aload_n X dX1_init_20 rfl 0 rfl ?_
  refine gn_sipush (v := 240) X dX1_init_21 (by decide) ?_
  refine gn_newarr_int (len := 240) X dX1_init_24 lw4 tck28 (hF _ (Nat.le_refl _)) rfl (by decide) ⟨Nat.le_of_ble_eq_true rfl, Nat.le_of_ble_eq_true rfl⟩ ?_
  have hF := hF.mono (n' := 29) (by omega)
  refine gn_putF (E := "") (i := 5) X hnm fc1 dX1_init_26 (Nat.le_of_ble_eq_true rfl) tck25 (Nat.le_of_ble_eq_true rfl) rfl lw47 rfl rfl rfl (Or.inr rfl) ?_
  have hF := Fresh.up (h := 25) (i := 5) (v := ((28 : Nat) : Int)) hF (Nat.le_of_ble_eq_true rfl)
  refine gn_aload_n X dX1_init_29 rfl 0 rfl ?_
  refine gn_sipush (v := 240) X dX1_init_30 (by decide) ?_
  refine gn_newarr_int (len := 240) X dX1_init_33 lw4 tck29 (hF _ (Nat.le_refl _)) rfl (by decide) ⟨Nat.le_of_ble_eq_true rfl, Nat.le_of_ble_eq_true rfl⟩ ?_
  have hF := hF.mono (n' := 30) (by omega)
  refine gn_putF (E := "") (i := 6) X hnm fc1 dX1_init_35 (Nat.le_of_ble_eq_true rfl) tck25 (Nat.le_of_ble_eq_true rfl) rfl lw48 rfl rfl rfl (Or.inr rfl) ?_
  have hF := Fresh.up (h := 25) (i := 6) (v := ((29 : Nat) : Int)) hF (Nat.le_of_ble_eq_true rfl)
  refine gn_aload_n X dX1_init_38 rfl 0 rfl ?_
  refine gn_sipush (v := 240) X dX1_init_39 (by decide) ?_
  refine gn_newarr_int (len := 240) X dX1_init_42 lw4 tck30 (hF _ (Nat.le_refl _)) rfl (by decide) ⟨Nat.le_of_ble_eq_true rfl, Nat.le_of_ble_eq_true rfl⟩ ?_
  have hF := hF.mono (n' := 31) (by omega)
  refine gn_putF (E := "") (i := 7) X hnm fc1 dX1_init_44 (Nat.le_of_ble_eq_true rfl) tck25 (Nat.le_of_ble_eq_true rfl) rfl lw49 rfl rfl rfl (Or.inr rfl) ?_
  have hF := Fresh.up (h := 25) (i := 7) (v := ((30 : Nat) : Int)) hF (Nat.le_of_ble_eq_true rfl)
  refine gn_aload_n X dX1_init_47 rfl 0 rfl ?_
  refine gn_bipush (v := 60) X dX1_init_48 (by decide) ?_
  refine gn_newarr_int (len := 60) X dX1_init_50 lw4 tck31 (hF _ (Nat.le_refl _)) rfl (by decide) ⟨Nat.le_of_ble_eq_true rfl, Nat.le_of_ble_eq_true rfl⟩ ?_
  have hF := hF.mono (n' := 32) (by omega)
  refine gn_putF (E := "") (i := 8) X hnm fc1 dX1_init_52 (Nat.le_of_ble_eq_true rfl) tck25 (Nat.le_of_ble_eq_true rfl) rfl lw50 rfl rfl rfl (Or.inr rfl) ?_
  have hF := Fresh.up (h := 25) (i := 8) (v := ((31 : Nat) : Int)) hF (Nat.le_of_ble_eq_true rfl)
  refine gn_aload_n X dX1_init_55 rfl 0 rfl ?_
  refine gn_bipush (v := 30) X dX1_init_56 (by decide) ?_
  refine gn_newarr_int (len := 30) X dX1_init_58 lw4 tck32 (hF _ (Nat.le_refl _)) rfl (by decide) ⟨Nat.le_of_ble_eq_true rfl, Nat.le_of_ble_eq_true rfl⟩ ?_
  have hF := hF.mono (n' := 33) (by omega)
  refine gn_putF (E := "") (i := 9) X hnm fc1 dX1_init_60 (Nat.le_of_ble_eq_true rfl) tck25 (Nat.le_of_ble_eq_true rfl) rfl lw51 rfl rfl rfl (Or.inr rfl) ?_
  have hF := Fresh.up (h := 25) (i := 9) (v := ((32 : Nat) : Int)) hF (Nat.le_of_ble_eq_true rfl)
  refine gn_aload_n X dX1_init_63 rfl 0 rfl ?_
  refine gn_aload_n X dX1_init_64 rfl 1 rfl ?_
  refine gn_putF (t9 := .int) (i := 3) X hnm fc1 dX1_init_65 (Nat.le_of_ble_eq_true rfl) tck25 (Nat.le_of_ble_eq_true rfl) rfl lw52 rfl rfl rfl (Or.inl rfl) ?_
  have hF := Fresh.up (h := 25) (i := 3) (v := ((1 : Nat) : Int)) hF (Nat.le_of_ble_eq_true rfl)
  refine gn_aload_n X dX1_init_68 rfl 0 rfl ?_
  refine gn_aload_n X dX1_init_69 rfl 2 rfl ?_
  refine gn_putF (t9 := .int) (i := 4) X hnm fc1 dX1_init_70 (Nat.le_of_ble_eq_true rfl) tck25 (Nat.le_of_ble_eq_true rfl) rfl lw53 rfl rfl rfl (Or.inl rfl) ?_
  have hF := Fresh.up (h := 25) (i := 4) (v := ((22 : Nat) : Int)) hF (Nat.le_of_ble_eq_true rfl)
  refine gn_iconst (v := 0) X dX1_init_73 rfl ?_
  refine gn_istore_n (L' := [(3, .int (Ii 0)), (0, .ref (base + 25)), (1, .ref (base + 1)), (2, .ref (base + 22))]) X dX1_init_74 rfl (by decide) rfl ?_
  refine gn_sub [1, 2, 3, 0] rfl ?_
  exact loop 30 0 rfl
theorem ne_X1_init {k : Nat} (M : Mm) (hk : k < 25) : mX1_init M k = M k := by
  unfold mX1_init
  rw [qX1_init_lt (by omega)]
  unfold mX1_init_pre
  simp only [up_ne _ _ _ (show k ≠ 25 by omega)]
def mX2_init_pre (M : Mm) : Mm := up (up (up (up (up (up (up (up (M) 310 1 ((311 : Nat) : Int)) 310 7 ((312 : Nat) : Int)) 310 8 ((313 : Nat) : Int)) 310 2 ((1 : Nat) : Int)) 310 3 ((25 : Nat) : Int)) 310 4 ((22 : Nat) : Int)) 310 5 ((283 : Nat) : Int)) 310 6 ((309 : Nat) : Int)
def qX2_init : Nat → Mm → Mm
  | 0, M => M
  | i + 1, M => up (mX4_init (314 + 2 * i) (qX2_init i M)) 312 i ((314 + 2 * i : Nat) : Int)
def mX2_init (M : Mm) : Mm := qX2_init 181 (mX2_init_pre M)
theorem qX2_init_lt {k : Nat} (hk : k < 312) : ∀ (i : Nat) (M : Mm), qX2_init i M k = M k
  | 0, M => rfl
  | i + 1, M => by
    show up (mX4_init (314 + 2 * i) (qX2_init i M)) 312 i _ k = _
    rw [up_ne _ _ _ (by omega), ne_X4_init _ (by omega), qX2_init_lt hk i M]
theorem qX2_init_fr {M : Mm} (hF : Fresh (TK TC) M 314) : ∀ i, i ≤ 181 → Fresh (TK TC) (qX2_init i M) (314 + 2 * i)
  | 0, _ => hF
  | i + 1, hi => (Fresh.up (fresh_X4_init (h := 314 + 2 * i) (show isR _ by first | (right; refine ⟨?_, ?_, ?_⟩ <;> omega) | (refine ⟨?_, ?_, ?_⟩ <;> omega)) ((qX2_init_fr hF i (by omega)).mono (Nat.le_succ _))) (by omega)).mono (by omega)
theorem fresh_X2_init_pre {M : Mm} (hF : Fresh (TK TC) M 311) : Fresh (TK TC) (mX2_init_pre M) 314 := by
  have hF := hF.mono (n' := 314) (by omega)
  unfold mX2_init_pre
  repeat (first | exact hF | refine Fresh.up ?_ (by omega))
theorem fresh_X2_init {M : Mm} (hF : Fresh (TK TC) M 311) : Fresh (TK TC) (mX2_init M) 676 := qX2_init_fr (fresh_X2_init_pre hF) 181 (Nat.le_refl _)
theorem cy_X2_init : yX2_init.cls ≠ "java/lang/invoke/MethodHandle" ∧ yX2_init.cls ≠ "java/lang/invoke/VarHandle" ∧ (parseMethodDescriptor yX2_init.desc).map (fun d => d.parameters.length) = some 5 := ⟨by decide +kernel, by decide +kernel, by decide +kernel⟩
set_option maxRecDepth 20000 in
theorem ok_X2_init (l : Launch) (D : Dd) (base : Nat) (M : Mm) (hF : Fresh (TK TC) M 311) : OkN l D (TK TC) 311 base M 676 (mX2_init M) yX2_init cX2_init 7 2 32 365 4523 [.ref (base + 310), .ref (base + 1), .ref (base + 25), .ref (base + 22), .ref (base + 283), .ref (base + 309)] := by
  refine metN (by decide +kernel) [(0, .ref (base + 310)), (1, .ref (base + 1)), (2, .ref (base + 25)), (3, .ref (base + 22)), (4, .ref (base + 283)), (5, .ref (base + 309))] rfl (Nat.le_of_ble_eq_true rfl) rfl (fun p e s m args below meth c X Z hnm hrt hlk => ?_)
  have X : Cx p s m args c cX2_init D 7 RX2 := X
  have loop : ∀ d i : Nat, i + d = 181 → Gn p l e (rmX 2 32 365 4523) s m args below meth c D (TK TC) (314 + 2 * i) base 7 (3 + 2 * i) (541 + 22 * i) (FinN D (TK TC) base 676 (mX2_init M) 365 4523 below args s) (qX2_init i (mX2_init_pre M)) 62 [(0, .ref (base + 310)), (1, .ref (base + 1)), (2, .ref (base + 25)), (3, .ref (base + 22)), (4, .ref (base + 283)), (5, .ref (base + 309)), (6, .int (Ii ((i : Nat) : Int)))] [] := by
    intro d
    induction d with
    | zero =>
      intro i hi
      have hi9 : i32 ((i : Nat) : Int) := by unfold i32; omega
      have hrow : qX2_init i (mX2_init_pre M) 310 7 = ((312 : Nat) : Int) := by rw [qX2_init_lt (by omega)]; simp [mX2_init_pre, up]
      refine gn_iload X dX2_init_62 6 rfl ?_
      refine gn_aload_n X dX2_init_64 rfl 0 rfl ?_
      refine gn_getq (i := 7) (v := 312) X fc2 dX2_init_65 (by omega) tck310 (Nat.le_of_ble_eq_true rfl) rfl lw149 rfl hrow ?_
      refine gn_alen X dX2_init_68 (by omega) tck312 (Or.inr rfl) ?_
      refine gn_icmp_ge (tgt := 92) X dX2_init_69 rfl hi9 kI_181 (fun c9 => ?_) (fun c9 => ?_)
      · have e9 : i = 181 := by omega
        subst e9
        refine gn_sub [] rfl ?_
        exact gn_return X hrt hlk dX2_init_92 (Nat.le_of_ble_eq_true rfl) (Nat.le_of_ble_eq_true rfl)
      · omega
    | succ d ih =>
      intro i hi
      have hi9 : i32 ((i : Nat) : Int) := by unfold i32; omega
      have hrow : qX2_init i (mX2_init_pre M) 310 7 = ((312 : Nat) : Int) := by rw [qX2_init_lt (by omega)]; simp [mX2_init_pre, up]
      refine gn_iload X dX2_init_62 6 rfl ?_
      refine gn_aload_n X dX2_init_64 rfl 0 rfl ?_
      refine gn_getq (i := 7) (v := 312) X fc2 dX2_init_65 (by omega) tck310 (Nat.le_of_ble_eq_true rfl) rfl lw149 rfl hrow ?_
      refine gn_alen X dX2_init_68 (by omega) tck312 (Or.inr rfl) ?_
      have hF9 := qX2_init_fr (fresh_X2_init_pre hF) i (by omega)
      have z9 := (show isR (314 + 2 * i) by first | (right; refine ⟨?_, ?_, ?_⟩ <;> omega) | (refine ⟨?_, ?_, ?_⟩ <;> omega))
      refine gn_icmp_ge (tgt := 92) X dX2_init_69 rfl hi9 kI_181 (fun c9 => ?_) (fun c9 => ?_)
      · omega
      · refine gn_aload_n X dX2_init_72 rfl 0 rfl ?_
        refine gn_getq (i := 7) (v := 312) X fc2 dX2_init_73 (by omega) tck310 (Nat.le_of_ble_eq_true rfl) rfl lw149 rfl hrow ?_
        refine gn_iload X dX2_init_76 6 rfl ?_
        refine gn_new (sl := [(0, 0), (0, 0), (0, 0), (0, 0), (0, 0), (3, 0), (0, 0), (0, 0), (0, 0), (1, 0), (0, 0), (1, 0), (0, 0), (3, 0)]) X fc4 dX2_init_78 lw148 lw156 lw157 (tkR z9) rfl (hF9 _ (Nat.le_refl _)) hdfX4 ⟨(by simp only [rmX]; omega), (by simp only [rmX]; omega)⟩ ?_
        refine gn_dup X dX2_init_81 rfl ?_
        refine gn_ctorN X Z (ok_X4_init l D base _ z9 (hF9.mono (Nat.le_succ _))) dX2_init_82 nl5 lw158 lw157 ⟨lw142, cy_X4_init, Nat.le_of_ble_eq_true rfl, Nat.le_of_ble_eq_true rfl⟩ rfl rfl rfl (Nat.le_of_ble_eq_true rfl) ⟨(by simp only [rmX]; omega), (by simp only [rmX]; omega)⟩ ?_
        refine gn_aast (ix := 4) X dX2_init_85 (by omega) tck312 (Or.inr ⟨rfl, rfl⟩) rfl (by omega) (tkR z9) rfl hi9 (by omega) ?_
        refine gn_iinc (L' := fun v => [(6, .int (Ii v)), (0, .ref (base + 310)), (1, .ref (base + 1)), (2, .ref (base + 25)), (3, .ref (base + 22)), (4, .ref (base + 283)), (5, .ref (base + 309))]) X dX2_init_86 hi9 kI_1 (j := 6) rfl (by decide) (fun _ => rfl) ?_
        have hw : wr (((i : Nat) : Int) + 1) = ((i + 1 : Nat) : Int) := by rw [wr_eq (by unfold i32; omega)]; rfl
        rw [hw]
        refine gn_goto (tgt := 62) X dX2_init_89 rfl ?_
        refine gn_sub [1, 2, 3, 4, 5, 6, 0] rfl ?_
        refine gn_widen (3 + 2 * (i + 1)) (541 + 22 * (i + 1)) (by omega) (by omega) ?_
        exact ih (i + 1) (by omega)
  refine gn_aload_n X dX2_init_0 rfl 0 rfl ?_
  refine gn_objInit X lw146 lw2 lw3 dX2_init_1 ⟨Nat.le_of_ble_eq_true rfl, Nat.le_of_ble_eq_true rfl⟩ ?_
  refine gn_aload_n X dX2_init_4 rfl 0 rfl ?_
  refine gn_sipush (v := 180) X dX2_init_5 (by decide) ?_
  refine gn_newarr_int (len := 180) X dX2_init_8 lw4 tck311 (hF _ (Nat.le_refl _)) rfl (by decide) ⟨Nat.le_of_ble_eq_true rfl, Nat.le_of_ble_eq_true rfl⟩ ?_
  have hF := hF.mono (n' := 312) (by omega)
  refine gn_putF (E := "") (i := 1) X hnm fc2 dX2_init_10 (Nat.le_of_ble_eq_true rfl) tck310 (Nat.le_of_ble_eq_true rfl) rfl lw147 rfl rfl rfl (Or.inr rfl) ?_
  have hF := Fresh.up (h := 310) (i := 1) (v := ((311 : Nat) : Int)) hF (Nat.le_of_ble_eq_true rfl)
  refine gn_aload_n X dX2_init_13 rfl 0 rfl ?_
  refine gn_sipush (v := 181) X dX2_init_14 (by decide) ?_
  refine gn_newqF (len := 181) X dX2_init_17 lw148 Z.2 tck312 (hF _ (Nat.le_refl _)) rfl (by decide) ⟨Nat.le_of_ble_eq_true rfl, Nat.le_of_ble_eq_true rfl⟩ ?_
  have hF := hF.mono (n' := 313) (by omega)
  refine gn_putF (E := "") (i := 7) X hnm fc2 dX2_init_20 (Nat.le_of_ble_eq_true rfl) tck310 (Nat.le_of_ble_eq_true rfl) rfl lw149 rfl rfl rfl (Or.inr rfl) ?_
  have hF := Fresh.up (h := 310) (i := 7) (v := ((312 : Nat) : Int)) hF (Nat.le_of_ble_eq_true rfl)
  refine gn_aload_n X dX2_init_23 rfl 0 rfl ?_
  refine gn_sipush (v := 180) X dX2_init_24 (by decide) ?_
  refine gn_newarr_boolean (len := 180) X dX2_init_27 lw45 tck313 (hF _ (Nat.le_refl _)) rfl (by decide) ⟨Nat.le_of_ble_eq_true rfl, Nat.le_of_ble_eq_true rfl⟩ ?_
  have hF := hF.mono (n' := 314) (by omega)
  refine gn_putF (E := "") (i := 8) X hnm fc2 dX2_init_29 (Nat.le_of_ble_eq_true rfl) tck310 (Nat.le_of_ble_eq_true rfl) rfl lw150 rfl rfl rfl (Or.inr rfl) ?_
  have hF := Fresh.up (h := 310) (i := 8) (v := ((313 : Nat) : Int)) hF (Nat.le_of_ble_eq_true rfl)
  refine gn_aload_n X dX2_init_32 rfl 0 rfl ?_
  refine gn_aload_n X dX2_init_33 rfl 1 rfl ?_
  refine gn_putF (t9 := .int) (i := 2) X hnm fc2 dX2_init_34 (Nat.le_of_ble_eq_true rfl) tck310 (Nat.le_of_ble_eq_true rfl) rfl lw151 rfl rfl rfl (Or.inl rfl) ?_
  have hF := Fresh.up (h := 310) (i := 2) (v := ((1 : Nat) : Int)) hF (Nat.le_of_ble_eq_true rfl)
  refine gn_aload_n X dX2_init_37 rfl 0 rfl ?_
  refine gn_aload_n X dX2_init_38 rfl 2 rfl ?_
  refine gn_putF (t9 := .int) (i := 3) X hnm fc2 dX2_init_39 (Nat.le_of_ble_eq_true rfl) tck310 (Nat.le_of_ble_eq_true rfl) rfl lw152 rfl rfl rfl (Or.inl rfl) ?_
  have hF := Fresh.up (h := 310) (i := 3) (v := ((25 : Nat) : Int)) hF (Nat.le_of_ble_eq_true rfl)
  refine gn_aload_n X dX2_init_42 rfl 0 rfl ?_
  refine gn_aload_n X dX2_init_43 rfl 3 rfl ?_
  refine gn_putF (t9 := .int) (i := 4) X hnm fc2 dX2_init_44 (Nat.le_of_ble_eq_true rfl) tck310 (Nat.le_of_ble_eq_true rfl) rfl lw153 rfl rfl rfl (Or.inl rfl) ?_
  have hF := Fresh.up (h := 310) (i := 4) (v := ((22 : Nat) : Int)) hF (Nat.le_of_ble_eq_true rfl)
  refine gn_aload_n X dX2_init_47 rfl 0 rfl ?_
  refine gn_aload X dX2_init_48 4 rfl ?_
  refine gn_putF (t9 := .int) (i := 5) X hnm fc2 dX2_init_50 (Nat.le_of_ble_eq_true rfl) tck310 (Nat.le_of_ble_eq_true rfl) rfl lw154 rfl rfl rfl (Or.inl rfl) ?_
  have hF := Fresh.up (h := 310) (i := 5) (v := ((283 : Nat) : Int)) hF (Nat.le_of_ble_eq_true rfl)
  refine gn_aload_n X dX2_init_53 rfl 0 rfl ?_
  refine gn_aload X dX2_init_54 5 rfl ?_
  refine gn_putF (E := "") (i := 6) X hnm fc2 dX2_init_56 (Nat.le_of_ble_eq_true rfl) tck310 (Nat.le_of_ble_eq_true rfl) rfl lw155 rfl rfl rfl (Or.inr rfl) ?_
  have hF := Fresh.up (h := 310) (i := 6) (v := ((309 : Nat) : Int)) hF (Nat.le_of_ble_eq_true rfl)
  refine gn_iconst (v := 0) X dX2_init_59 rfl ?_
  refine gn_istore (L' := [(6, .int (Ii 0)), (0, .ref (base + 310)), (1, .ref (base + 1)), (2, .ref (base + 25)), (3, .ref (base + 22)), (4, .ref (base + 283)), (5, .ref (base + 309))]) X dX2_init_60 (by decide) rfl ?_
  refine gn_sub [1, 2, 3, 4, 5, 6, 0] rfl ?_
  exact loop 181 0 rfl
theorem ne_X2_init {k : Nat} (M : Mm) (hk : k < 310) : mX2_init M k = M k := by
  unfold mX2_init
  rw [qX2_init_lt (by omega)]
  unfold mX2_init_pre
  simp only [up_ne _ _ _ (show k ≠ 310 by omega)]
def mX11_init (M : Mm) : Mm := up (mX6_init (up (mX7_init (up (mX2_init (up (mX3_init 304 (up (mX3_init 299 (up (mX8_init 291 (up (mX8_init 283 (up (mX9_init (up (mX1_init (mX10_init (up (mX0_init 14 (up (mX5_init (M)) 0 0 ((1 : Nat) : Int))) 0 1 ((14 : Nat) : Int)))) 0 2 ((25 : Nat) : Int))) 0 3 ((273 : Nat) : Int))) 0 4 ((283 : Nat) : Int))) 0 5 ((291 : Nat) : Int))) 0 6 ((299 : Nat) : Int))) 0 7 ((304 : Nat) : Int))) 0 8 ((310 : Nat) : Int))) 0 9 ((676 : Nat) : Int))) 0 10 ((678 : Nat) : Int)
theorem cy_X11_init : yX11_init.cls ≠ "java/lang/invoke/MethodHandle" ∧ yX11_init.cls ≠ "java/lang/invoke/VarHandle" ∧ (parseMethodDescriptor yX11_init.desc).map (fun d => d.parameters.length) = some 0 := ⟨by decide +kernel, by decide +kernel, by decide +kernel⟩
set_option maxRecDepth 20000 in
theorem ok_X11_init (l : Launch) (D : Dd) (base : Nat) (M : Mm) (hF : Fresh (TK TC) M 1) : OkN l D (TK TC) 1 base M 681 (mX11_init M) yX11_init cX11_init 3 3 58 680 14189 [.ref (base + 0)] := by
  refine metN (by decide +kernel) [(0, .ref (base + 0))] rfl (Nat.le_of_ble_eq_true rfl) rfl (fun p e s m args below meth c X Z hnm hrt hlk => ?_)
  have X : Cx p s m args c cX11_init D 3 RX11 := X
  refine gn_aload_n X dX11_init_0 rfl 0 rfl ?_
  refine gn_objInit X lw636 lw2 lw3 dX11_init_1 ⟨Nat.le_of_ble_eq_true rfl, Nat.le_of_ble_eq_true rfl⟩ ?_
  refine gn_aload_n X dX11_init_4 rfl 0 rfl ?_
  refine gn_new (sl := [(0, 0), (0, 0), (3, 0), (3, 0), (3, 0), (3, 0), (3, 0), (3, 0), (3, 0), (3, 0), (3, 0), (3, 0), (3, 0), (3, 0)]) X fc5 dX11_init_5 lw637 lw638 lw80 tck1 rfl (hF _ (Nat.le_refl _)) hdfX5 ⟨Nat.le_of_ble_eq_true rfl, Nat.le_of_ble_eq_true rfl⟩ ?_
  have hF := hF.mono (n' := 2) (by omega)
  refine gn_dup X dX11_init_8 rfl ?_
  refine gn_ctorN X Z (ok_X5_init l D base _ hF) dX11_init_9 nl0 lw667 lw80 ⟨lw391, cy_X5_init, Nat.le_of_ble_eq_true rfl, Nat.le_of_ble_eq_true rfl⟩ rfl rfl rfl (Nat.le_of_ble_eq_true rfl) ⟨Nat.le_of_ble_eq_true rfl, Nat.le_of_ble_eq_true rfl⟩ ?_
  have hF := fresh_X5_init hF
  refine gn_putF (t9 := .int) (i := 0) X hnm fc11 dX11_init_12 (Nat.le_of_ble_eq_true rfl) tck0 (Nat.le_of_ble_eq_true rfl) rfl lw639 rfl rfl rfl (Or.inl rfl) ?_
  have hF := Fresh.up (h := 0) (i := 0) (v := ((1 : Nat) : Int)) hF (Nat.le_of_ble_eq_true rfl)
  refine gn_aload_n X dX11_init_15 rfl 0 rfl ?_
  refine gn_new (sl := [(0, 0), (0, 0), (0, 0), (0, 0), (0, 0), (0, 0), (3, 0), (3, 0), (3, 0), (3, 0), (3, 0), (3, 0), (3, 0)]) X fc0 dX11_init_16 lw640 lw54 lw33 (tkE (by decide)) rfl (hF _ (Nat.le_refl _)) hdfX0 ⟨Nat.le_of_ble_eq_true rfl, Nat.le_of_ble_eq_true rfl⟩ ?_
  have hF := hF.mono (n' := 15) (by omega)
  refine gn_dup X dX11_init_19 rfl ?_
  refine gn_ctorN X Z (ok_X0_init l D base _ (h := 14) (by decide) hF) dX11_init_20 nl1 lw55 lw33 ⟨lw0, cy_X0_init, Nat.le_of_ble_eq_true rfl, Nat.le_of_ble_eq_true rfl⟩ rfl rfl rfl (Nat.le_of_ble_eq_true rfl) ⟨Nat.le_of_ble_eq_true rfl, Nat.le_of_ble_eq_true rfl⟩ ?_
  have hF := fresh_X0_init (h := 14) (by decide) hF
  refine gn_putF (t9 := .int) (i := 1) X hnm fc11 dX11_init_23 (Nat.le_of_ble_eq_true rfl) tck0 (Nat.le_of_ble_eq_true rfl) rfl lw641 rfl rfl rfl (Or.inl rfl) ?_
  have hF := Fresh.up (h := 0) (i := 1) (v := ((14 : Nat) : Int)) hF (Nat.le_of_ble_eq_true rfl)
  refine gn_new (sl := [(3, 0), (3, 0), (3, 0)]) X fc10 dX11_init_26 lw642 lw643 lw87 tck22 rfl (hF _ (Nat.le_refl _)) hdfX10 ⟨Nat.le_of_ble_eq_true rfl, Nat.le_of_ble_eq_true rfl⟩ ?_
  have hF := hF.mono (n' := 23) (by omega)
  refine gn_dup X dX11_init_29 rfl ?_
  refine gn_aload_n X dX11_init_30 rfl 0 rfl ?_
  refine gn_getq (i := 0) (v := 1) X fc11 dX11_init_31 (Nat.le_of_ble_eq_true rfl) tck0 (Nat.le_of_ble_eq_true rfl) rfl lw639 rfl (by simp [up, ne_X5_init, ne_X0_init, ne_X10_init, ne_X1_init, ne_X9_init, ne_X8_init, ne_X3_init, ne_X2_init, ne_X7_init, ne_X6_init]) ?_
  refine gn_ctor X Z (ok_X10_init l D base _ hF) dX11_init_34 lw668 lw669 lw87 ⟨lw634, cy_X10_init, Nat.le_of_ble_eq_true rfl, Nat.le_of_ble_eq_true rfl⟩ rfl rfl rfl (Nat.le_of_ble_eq_true rfl) ⟨Nat.le_of_ble_eq_true rfl, Nat.le_of_ble_eq_true rfl⟩ ?_
  have hF := fresh_X10_init hF
  refine gn_astore_n (L' := [(1, .ref (base + 22)), (0, .ref (base + 0))]) X dX11_init_37 rfl (by decide) rfl ?_
  refine gn_aload_n X dX11_init_38 rfl 1 rfl ?_
  refine gn_new (sl := [(0, 0), (3, 0), (3, 0), (3, 0), (3, 0), (3, 0), (3, 0), (3, 0), (3, 0), (3, 0)]) X fc1 dX11_init_39 lw644 lw645 lw105 tck25 rfl (hF _ (Nat.le_refl _)) hdfX1 ⟨Nat.le_of_ble_eq_true rfl, Nat.le_of_ble_eq_true rfl⟩ ?_
  have hF := hF.mono (n' := 26) (by omega)
  refine gn_dup X dX11_init_42 rfl ?_
  refine gn_aload_n X dX11_init_43 rfl 1 rfl ?_
  refine gn_getq (i := 0) (v := 1) X fc11 dX11_init_44 (Nat.le_of_ble_eq_true rfl) tck0 (Nat.le_of_ble_eq_true rfl) rfl lw639 rfl (by simp [up, ne_X5_init, ne_X0_init, ne_X10_init, ne_X1_init, ne_X9_init, ne_X8_init, ne_X3_init, ne_X2_init, ne_X7_init, ne_X6_init]) ?_
  refine gn_aload_n X dX11_init_47 rfl 0 rfl ?_
  refine gn_ctor X Z (ok_X1_init l D base _ hF) dX11_init_48 lw670 lw671 lw105 ⟨lw56, cy_X1_init, Nat.le_of_ble_eq_true rfl, Nat.le_of_ble_eq_true rfl⟩ rfl rfl rfl (Nat.le_of_ble_eq_true rfl) ⟨Nat.le_of_ble_eq_true rfl, Nat.le_of_ble_eq_true rfl⟩ ?_
  have hF := fresh_X1_init hF
  refine gn_putF (t9 := .int) (i := 2) X hnm fc11 dX11_init_51 (Nat.le_of_ble_eq_true rfl) tck0 (Nat.le_of_ble_eq_true rfl) rfl lw646 rfl rfl rfl (Or.inl rfl) ?_
  have hF := Fresh.up (h := 0) (i := 2) (v := ((25 : Nat) : Int)) hF (Nat.le_of_ble_eq_true rfl)
  refine gn_aload_n X dX11_init_54 rfl 1 rfl ?_
  refine gn_new (sl := [(0, 0), (3, 0), (3, 0), (3, 0), (3, 0), (0, 0), (0, 0), (3, 0), (3, 0), (3, 0), (3, 0), (3, 0), (3, 0)]) X fc9 dX11_init_55 lw647 lw648 lw570 tck273 rfl (hF _ (Nat.le_refl _)) hdfX9 ⟨Nat.le_of_ble_eq_true rfl, Nat.le_of_ble_eq_true rfl⟩ ?_
  have hF := hF.mono (n' := 274) (by omega)
  refine gn_dup X dX11_init_58 rfl ?_
  refine gn_aload_n X dX11_init_59 rfl 1 rfl ?_
  refine gn_getq (i := 0) (v := 1) X fc11 dX11_init_60 (Nat.le_of_ble_eq_true rfl) tck0 (Nat.le_of_ble_eq_true rfl) rfl lw639 rfl (by simp [up, ne_X5_init, ne_X0_init, ne_X10_init, ne_X1_init, ne_X9_init, ne_X8_init, ne_X3_init, ne_X2_init, ne_X7_init, ne_X6_init]) ?_
  refine gn_ctor X Z (ok_X9_init l D base _ hF) dX11_init_63 lw672 lw673 lw570 ⟨lw550, cy_X9_init, Nat.le_of_ble_eq_true rfl, Nat.le_of_ble_eq_true rfl⟩ rfl rfl rfl (Nat.le_of_ble_eq_true rfl) ⟨Nat.le_of_ble_eq_true rfl, Nat.le_of_ble_eq_true rfl⟩ ?_
  have hF := fresh_X9_init hF
  refine gn_putF (t9 := .int) (i := 3) X hnm fc11 dX11_init_66 (Nat.le_of_ble_eq_true rfl) tck0 (Nat.le_of_ble_eq_true rfl) rfl lw649 rfl rfl rfl (Or.inl rfl) ?_
  have hF := Fresh.up (h := 0) (i := 3) (v := ((273 : Nat) : Int)) hF (Nat.le_of_ble_eq_true rfl)
  refine gn_aload_n X dX11_init_69 rfl 1 rfl ?_
  refine gn_new (sl := [(0, 0), (0, 0), (3, 0), (3, 0), (3, 0), (3, 0), (3, 0), (3, 0), (3, 0)]) X fc8 dX11_init_70 lw650 lw651 lw189 (tkT (by decide)) rfl (hF _ (Nat.le_refl _)) hdfX8 ⟨Nat.le_of_ble_eq_true rfl, Nat.le_of_ble_eq_true rfl⟩ ?_
  have hF := hF.mono (n' := 284) (by omega)
  refine gn_dup X dX11_init_73 rfl ?_
  refine gn_ctorN X Z (ok_X8_init l D base _ (h := 283) (by decide) hF) dX11_init_74 nl3 lw674 lw189 ⟨lw528, cy_X8_init, Nat.le_of_ble_eq_true rfl, Nat.le_of_ble_eq_true rfl⟩ rfl rfl rfl (Nat.le_of_ble_eq_true rfl) ⟨Nat.le_of_ble_eq_true rfl, Nat.le_of_ble_eq_true rfl⟩ ?_
  have hF := fresh_X8_init (h := 283) (by decide) hF
  refine gn_putF (t9 := .int) (i := 4) X hnm fc11 dX11_init_77 (Nat.le_of_ble_eq_true rfl) tck0 (Nat.le_of_ble_eq_true rfl) rfl lw652 rfl rfl rfl (Or.inl rfl) ?_
  have hF := Fresh.up (h := 0) (i := 4) (v := ((283 : Nat) : Int)) hF (Nat.le_of_ble_eq_true rfl)
  refine gn_aload_n X dX11_init_80 rfl 1 rfl ?_
  refine gn_new (sl := [(0, 0), (0, 0), (3, 0), (3, 0), (3, 0), (3, 0), (3, 0), (3, 0), (3, 0)]) X fc8 dX11_init_81 lw650 lw651 lw189 (tkT (by decide)) rfl (hF _ (Nat.le_refl _)) hdfX8 ⟨Nat.le_of_ble_eq_true rfl, Nat.le_of_ble_eq_true rfl⟩ ?_
  have hF := hF.mono (n' := 292) (by omega)
  refine gn_dup X dX11_init_84 rfl ?_
  refine gn_ctorN X Z (ok_X8_init l D base _ (h := 291) (by decide) hF) dX11_init_85 nl3 lw674 lw189 ⟨lw528, cy_X8_init, Nat.le_of_ble_eq_true rfl, Nat.le_of_ble_eq_true rfl⟩ rfl rfl rfl (Nat.le_of_ble_eq_true rfl) ⟨Nat.le_of_ble_eq_true rfl, Nat.le_of_ble_eq_true rfl⟩ ?_
  have hF := fresh_X8_init (h := 291) (by decide) hF
  refine gn_putF (t9 := .int) (i := 5) X hnm fc11 dX11_init_88 (Nat.le_of_ble_eq_true rfl) tck0 (Nat.le_of_ble_eq_true rfl) rfl lw653 rfl rfl rfl (Or.inl rfl) ?_
  have hF := Fresh.up (h := 0) (i := 5) (v := ((291 : Nat) : Int)) hF (Nat.le_of_ble_eq_true rfl)
  refine gn_aload_n X dX11_init_91 rfl 1 rfl ?_
  refine gn_new (sl := [(0, 0), (3, 0), (3, 0), (3, 0), (3, 0)]) X fc3 dX11_init_92 lw654 lw655 lw245 (tkF (by decide)) rfl (hF _ (Nat.le_refl _)) hdfX3 ⟨Nat.le_of_ble_eq_true rfl, Nat.le_of_ble_eq_true rfl⟩ ?_
  have hF := hF.mono (n' := 300) (by omega)
  refine gn_dup X dX11_init_95 rfl ?_
  refine gn_ctorN X Z (ok_X3_init l D base _ (h := 299) (by decide) hF) dX11_init_96 nl4 lw675 lw245 ⟨lw366, cy_X3_init, Nat.le_of_ble_eq_true rfl, Nat.le_of_ble_eq_true rfl⟩ rfl rfl rfl (Nat.le_of_ble_eq_true rfl) ⟨Nat.le_of_ble_eq_true rfl, Nat.le_of_ble_eq_true rfl⟩ ?_
  have hF := fresh_X3_init (h := 299) (by decide) hF
  refine gn_putF (t9 := .int) (i := 6) X hnm fc11 dX11_init_99 (Nat.le_of_ble_eq_true rfl) tck0 (Nat.le_of_ble_eq_true rfl) rfl lw656 rfl rfl rfl (Or.inl rfl) ?_
  have hF := Fresh.up (h := 0) (i := 6) (v := ((299 : Nat) : Int)) hF (Nat.le_of_ble_eq_true rfl)
  refine gn_aload_n X dX11_init_102 rfl 1 rfl ?_
  refine gn_new (sl := [(0, 0), (3, 0), (3, 0), (3, 0), (3, 0)]) X fc3 dX11_init_103 lw654 lw655 lw245 (tkF (by decide)) rfl (hF _ (Nat.le_refl _)) hdfX3 ⟨Nat.le_of_ble_eq_true rfl, Nat.le_of_ble_eq_true rfl⟩ ?_
  have hF := hF.mono (n' := 305) (by omega)
  refine gn_dup X dX11_init_106 rfl ?_
  refine gn_ctorN X Z (ok_X3_init l D base _ (h := 304) (by decide) hF) dX11_init_107 nl4 lw675 lw245 ⟨lw366, cy_X3_init, Nat.le_of_ble_eq_true rfl, Nat.le_of_ble_eq_true rfl⟩ rfl rfl rfl (Nat.le_of_ble_eq_true rfl) ⟨Nat.le_of_ble_eq_true rfl, Nat.le_of_ble_eq_true rfl⟩ ?_
  have hF := fresh_X3_init (h := 304) (by decide) hF
  refine gn_putF (t9 := .int) (i := 7) X hnm fc11 dX11_init_110 (Nat.le_of_ble_eq_true rfl) tck0 (Nat.le_of_ble_eq_true rfl) rfl lw657 rfl rfl rfl (Or.inl rfl) ?_
  have hF := Fresh.up (h := 0) (i := 7) (v := ((304 : Nat) : Int)) hF (Nat.le_of_ble_eq_true rfl)
  refine gn_sipush (v := 180) X dX11_init_113 (by decide) ?_
  refine gn_newarr_int (len := 180) X dX11_init_116 lw4 tck309 (hF _ (Nat.le_refl _)) rfl (by decide) ⟨Nat.le_of_ble_eq_true rfl, Nat.le_of_ble_eq_true rfl⟩ ?_
  have hF := hF.mono (n' := 310) (by omega)
  refine gn_astore_n (L' := [(2, .ref (base + 309)), (1, .ref (base + 22)), (0, .ref (base + 0))]) X dX11_init_118 rfl (by decide) rfl ?_
  refine gn_aload_n X dX11_init_119 rfl 2 rfl ?_
  refine gn_new (sl := [(0, 0), (3, 0), (3, 0), (3, 0), (3, 0), (3, 0), (3, 0), (3, 0), (3, 0), (0, 0), (0, 0), (1, 0), (3, 0)]) X fc2 dX11_init_120 lw658 lw659 lw216 tck310 rfl (hF _ (Nat.le_refl _)) hdfX2 ⟨Nat.le_of_ble_eq_true rfl, Nat.le_of_ble_eq_true rfl⟩ ?_
  have hF := hF.mono (n' := 311) (by omega)
  refine gn_dup X dX11_init_123 rfl ?_
  refine gn_aload_n X dX11_init_124 rfl 2 rfl ?_
  refine gn_getq (i := 0) (v := 1) X fc11 dX11_init_125 (Nat.le_of_ble_eq_true rfl) tck0 (Nat.le_of_ble_eq_true rfl) rfl lw639 rfl (by simp [up, ne_X5_init, ne_X0_init, ne_X10_init, ne_X1_init, ne_X9_init, ne_X8_init, ne_X3_init, ne_X2_init, ne_X7_init, ne_X6_init]) ?_
  refine gn_aload_n X dX11_init_128 rfl 2 rfl ?_
  refine gn_getq (i := 2) (v := 25) X fc11 dX11_init_129 (Nat.le_of_ble_eq_true rfl) tck0 (Nat.le_of_ble_eq_true rfl) rfl lw646 rfl (by simp [up, ne_X5_init, ne_X0_init, ne_X10_init, ne_X1_init, ne_X9_init, ne_X8_init, ne_X3_init, ne_X2_init, ne_X7_init, ne_X6_init]) ?_
  refine gn_aload_n X dX11_init_132 rfl 1 rfl ?_
  refine gn_aload_n X dX11_init_133 rfl 2 rfl ?_
  refine gn_getq (i := 4) (v := 283) X fc11 dX11_init_134 (Nat.le_of_ble_eq_true rfl) tck0 (Nat.le_of_ble_eq_true rfl) rfl lw652 rfl (by simp [up, ne_X5_init, ne_X0_init, ne_X10_init, ne_X1_init, ne_X9_init, ne_X8_init, ne_X3_init, ne_X2_init, ne_X7_init, ne_X6_init]) ?_
  refine gn_aload_n X dX11_init_137 rfl 0 rfl ?_
  refine gn_ctor X Z (ok_X2_init l D base _ hF) dX11_init_138 lw676 lw677 lw216 ⟨lw145, cy_X2_init, Nat.le_of_ble_eq_true rfl, Nat.le_of_ble_eq_true rfl⟩ rfl rfl rfl (Nat.le_of_ble_eq_true rfl) ⟨Nat.le_of_ble_eq_true rfl, Nat.le_of_ble_eq_true rfl⟩ ?_
  have hF := fresh_X2_init hF
  refine gn_putF (t9 := .int) (i := 8) X hnm fc11 dX11_init_141 (Nat.le_of_ble_eq_true rfl) tck0 (Nat.le_of_ble_eq_true rfl) rfl lw660 rfl rfl rfl (Or.inl rfl) ?_
  have hF := Fresh.up (h := 0) (i := 8) (v := ((310 : Nat) : Int)) hF (Nat.le_of_ble_eq_true rfl)
  refine gn_aload_n X dX11_init_144 rfl 2 rfl ?_
  refine gn_new (sl := [(3, 0), (3, 0), (3, 0), (3, 0), (3, 0), (3, 0), (1, 0)]) X fc7 dX11_init_145 lw661 lw662 lw522 tck676 rfl (hF _ (Nat.le_refl _)) hdfX7 ⟨Nat.le_of_ble_eq_true rfl, Nat.le_of_ble_eq_true rfl⟩ ?_
  have hF := hF.mono (n' := 677) (by omega)
  refine gn_dup X dX11_init_148 rfl ?_
  refine gn_aload_n X dX11_init_149 rfl 2 rfl ?_
  refine gn_getq (i := 0) (v := 1) X fc11 dX11_init_150 (Nat.le_of_ble_eq_true rfl) tck0 (Nat.le_of_ble_eq_true rfl) rfl lw639 rfl (by simp [up, ne_X5_init, ne_X0_init, ne_X10_init, ne_X1_init, ne_X9_init, ne_X8_init, ne_X3_init, ne_X2_init, ne_X7_init, ne_X6_init]) ?_
  refine gn_aload_n X dX11_init_153 rfl 2 rfl ?_
  refine gn_getq (i := 4) (v := 283) X fc11 dX11_init_154 (Nat.le_of_ble_eq_true rfl) tck0 (Nat.le_of_ble_eq_true rfl) rfl lw652 rfl (by simp [up, ne_X5_init, ne_X0_init, ne_X10_init, ne_X1_init, ne_X9_init, ne_X8_init, ne_X3_init, ne_X2_init, ne_X7_init, ne_X6_init]) ?_
  refine gn_aload_n X dX11_init_157 rfl 2 rfl ?_
  refine gn_getq (i := 8) (v := 310) X fc11 dX11_init_158 (Nat.le_of_ble_eq_true rfl) tck0 (Nat.le_of_ble_eq_true rfl) rfl lw660 rfl (by simp [up, ne_X5_init, ne_X0_init, ne_X10_init, ne_X1_init, ne_X9_init, ne_X8_init, ne_X3_init, ne_X2_init, ne_X7_init, ne_X6_init]) ?_
  refine gn_aload_n X dX11_init_161 rfl 2 rfl ?_
  refine gn_getq (i := 7) (v := 304) X fc11 dX11_init_162 (Nat.le_of_ble_eq_true rfl) tck0 (Nat.le_of_ble_eq_true rfl) rfl lw657 rfl (by simp [up, ne_X5_init, ne_X0_init, ne_X10_init, ne_X1_init, ne_X9_init, ne_X8_init, ne_X3_init, ne_X2_init, ne_X7_init, ne_X6_init]) ?_
  refine gn_aload_n X dX11_init_165 rfl 0 rfl ?_
  refine gn_ctor X Z (ok_X7_init l D base _ hF) dX11_init_166 lw678 lw679 lw522 ⟨lw502, cy_X7_init, Nat.le_of_ble_eq_true rfl, Nat.le_of_ble_eq_true rfl⟩ rfl rfl rfl (Nat.le_of_ble_eq_true rfl) ⟨Nat.le_of_ble_eq_true rfl, Nat.le_of_ble_eq_true rfl⟩ ?_
  have hF := fresh_X7_init hF
  refine gn_putF (t9 := .int) (i := 9) X hnm fc11 dX11_init_169 (Nat.le_of_ble_eq_true rfl) tck0 (Nat.le_of_ble_eq_true rfl) rfl lw663 rfl rfl rfl (Or.inl rfl) ?_
  have hF := Fresh.up (h := 0) (i := 9) (v := ((676 : Nat) : Int)) hF (Nat.le_of_ble_eq_true rfl)
  refine gn_aload_n X dX11_init_172 rfl 2 rfl ?_
  refine gn_new (sl := [(3, 0), (3, 0), (3, 0), (3, 0), (3, 0)]) X fc6 dX11_init_173 lw664 lw665 lw450 tck678 rfl (hF _ (Nat.le_refl _)) hdfX6 ⟨Nat.le_of_ble_eq_true rfl, Nat.le_of_ble_eq_true rfl⟩ ?_
  have hF := hF.mono (n' := 679) (by omega)
  refine gn_dup X dX11_init_176 rfl ?_
  refine gn_aload_n X dX11_init_177 rfl 2 rfl ?_
  refine gn_getq (i := 0) (v := 1) X fc11 dX11_init_178 (Nat.le_of_ble_eq_true rfl) tck0 (Nat.le_of_ble_eq_true rfl) rfl lw639 rfl (by simp [up, ne_X5_init, ne_X0_init, ne_X10_init, ne_X1_init, ne_X9_init, ne_X8_init, ne_X3_init, ne_X2_init, ne_X7_init, ne_X6_init]) ?_
  refine gn_aload_n X dX11_init_181 rfl 2 rfl ?_
  refine gn_getq (i := 2) (v := 25) X fc11 dX11_init_182 (Nat.le_of_ble_eq_true rfl) tck0 (Nat.le_of_ble_eq_true rfl) rfl lw646 rfl (by simp [up, ne_X5_init, ne_X0_init, ne_X10_init, ne_X1_init, ne_X9_init, ne_X8_init, ne_X3_init, ne_X2_init, ne_X7_init, ne_X6_init]) ?_
  refine gn_aload_n X dX11_init_185 rfl 1 rfl ?_
  refine gn_ctor X Z (ok_X6_init l D base _ hF) dX11_init_186 lw680 lw681 lw450 ⟨lw431, cy_X6_init, Nat.le_of_ble_eq_true rfl, Nat.le_of_ble_eq_true rfl⟩ rfl rfl rfl (Nat.le_of_ble_eq_true rfl) ⟨Nat.le_of_ble_eq_true rfl, Nat.le_of_ble_eq_true rfl⟩ ?_
  have hF := fresh_X6_init hF
  refine gn_putF (t9 := .int) (i := 10) X hnm fc11 dX11_init_189 (Nat.le_of_ble_eq_true rfl) tck0 (Nat.le_of_ble_eq_true rfl) rfl lw666 rfl rfl rfl (Or.inl rfl) ?_
  have hF := Fresh.up (h := 0) (i := 10) (v := ((678 : Nat) : Int)) hF (Nat.le_of_ble_eq_true rfl)
  exact gn_return X hrt hlk dX11_init_192 (Nat.le_of_ble_eq_true rfl) (Nat.le_of_ble_eq_true rfl)
def mX12_init_pre (M : Mm) : Mm := up (up (up (up (up (up (up (up (up (up (up (up (up (up (up (up (up (up (up (up (up (up (up (up (up (up (up (up (up (up (up (up (up (up (up (up (up (up (up (up (up (up (up (up (up (up (up (up (up (up (up (up (up (up (up (up (up (up (up (up (up (up (up (up (up (up (up (M) 0 1 ((1 : Nat) : Int)) 0 2 ((2 : Nat) : Int)) 0 3 ((3 : Nat) : Int)) 0 4 ((4 : Nat) : Int)) 0 5 ((5 : Nat) : Int)) 0 6 ((6 : Nat) : Int)) 0 7 ((7 : Nat) : Int)) 0 8 ((8 : Nat) : Int)) 0 9 ((9 : Nat) : Int)) 0 10 ((10 : Nat) : Int)) 0 11 ((11 : Nat) : Int)) 0 13 ((12 : Nat) : Int)) 0 16 ((13 : Nat) : Int)) 0 17 ((14 : Nat) : Int)) 0 18 ((15 : Nat) : Int)) 0 20 ((16 : Nat) : Int)) 0 21 ((17 : Nat) : Int)) 0 22 ((18 : Nat) : Int)) 0 23 ((19 : Nat) : Int)) 0 24 ((20 : Nat) : Int)) 0 25 ((21 : Nat) : Int)) 0 26 ((22 : Nat) : Int)) 0 27 ((23 : Nat) : Int)) 0 28 ((24 : Nat) : Int)) 0 29 ((25 : Nat) : Int)) 0 30 ((26 : Nat) : Int)) 0 31 ((27 : Nat) : Int)) 0 32 ((28 : Nat) : Int)) 0 34 ((29 : Nat) : Int)) 0 36 (-1)) 0 37 ((30 : Nat) : Int)) 0 38 ((31 : Nat) : Int)) 0 39 ((32 : Nat) : Int)) 0 40 ((33 : Nat) : Int)) 0 41 ((34 : Nat) : Int)) 0 42 ((35 : Nat) : Int)) 0 43 ((36 : Nat) : Int)) 0 45 ((37 : Nat) : Int)) 0 46 ((38 : Nat) : Int)) 0 47 ((39 : Nat) : Int)) 0 48 ((40 : Nat) : Int)) 0 49 ((41 : Nat) : Int)) 0 50 ((42 : Nat) : Int)) 0 51 ((43 : Nat) : Int)) 0 52 ((44 : Nat) : Int)) 0 53 ((45 : Nat) : Int)) 0 54 ((46 : Nat) : Int)) 0 55 ((47 : Nat) : Int)) 0 56 ((48 : Nat) : Int)) 0 57 ((49 : Nat) : Int)) 0 60 ((50 : Nat) : Int)) 0 61 ((51 : Nat) : Int)) 0 62 ((52 : Nat) : Int)) 0 63 ((53 : Nat) : Int)) 0 64 ((54 : Nat) : Int)) 0 65 ((55 : Nat) : Int)) 0 66 ((56 : Nat) : Int)) 0 70 ((57 : Nat) : Int)) 0 71 ((58 : Nat) : Int)) 0 77 ((59 : Nat) : Int)) 0 78 ((60 : Nat) : Int)) 0 81 ((61 : Nat) : Int)) 0 82 ((62 : Nat) : Int)) 0 83 ((63 : Nat) : Int)) 0 84 ((64 : Nat) : Int)) 0 85 ((65 : Nat) : Int)) 0 86 ((66 : Nat) : Int)
def qX12_init : Nat → Mm → Mm
  | 0, M => M
  | i + 1, M => up (up (qX12_init i M) 8 i (-1)) 10 i (-1)
def mX12_init (M : Mm) : Mm := qX12_init 10 (mX12_init_pre M)
