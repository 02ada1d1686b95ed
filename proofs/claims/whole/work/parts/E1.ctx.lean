/-! what holds at the law's entry: the frame of both worlds -/
theorem vk_S.eqv {N : Nat} {len : List Nat} {byt : List (List Int32)} {adK adV bK bV : Nat → Nat} {A : Nat → Prop} {U : State} {H : Heap} (h : vk_S N len byt adK adV A U H) (e1 : ∀ i, i < N → bK i = adK i) (e2 : ∀ i, i < N → bV i = adV i) : vk_S N len byt bK bV A U H :=
  ⟨fun i hi => by rw [e1 i hi, e2 i hi]; exact h.1 i hi, fun i j hi hj e => h.2 i j hi hj (by rw [← e1 i hi, ← e1 j hj]; exact e)⟩
def lY (y0 y1 y2 y3 y4 : ClassId) (adK adV : Nat → Nat) : Nat → ClassId := fun k => if k < 100 then (if k = 0 then y0 else if k = 1 then y1 else if k = 2 then y2 else if k = 3 then y3 else y4) else if k < 120 then adK (k - 100) else adV (k - 120)
def lPx (i : Nat) : Nat := [133, 146, 100, 92, 104, 98, 102, 218].getD i 0
def lTm (i : Nat) : Term := .string "ViewhouseModel" (lPx i)
theorem arr_of {s : State} {args : Array Value} {ty : FieldType} (h : (Cond.arrayClass ty).before args s = true) : ∃ cA : ClassId, ArrOfT s cA ty ∧ s.vm.findClass ("[" ++ ty.toString) = some cA := by
  obtain ⟨cA, kA, comp, h1, h2, h3⟩ := Cond.arrayClass_spec h
  exact ⟨cA, fun n z => ⟨fun k h => (by cases h), kA, h2, comp, h3⟩, h1⟩
theorem arr_ofO {s : State} {args : Array Value} {C : String} (h : (Cond.arrayOver (.object C)).before args s = true) : ∃ cA : ClassId, ArrOfT s cA (.object C) ∧ va_RA s cA (.object C) := by
  obtain ⟨comp, cA, kA, h1, -, h2, h3, h4⟩ := Cond.arrayOver_spec h
  exact ⟨cA, fun n z => ⟨fun k h => (by cases h), kA, h2, comp, h3⟩, kA, comp, h2, h3, h1, h4⟩
theorem arr_ofA {s : State} {args : Array Value} {t : FieldType} (h : (Cond.arrayOver (.array t)).before args s = true) : ∃ cA : ClassId, ArrOfT s cA (.array t) ∧ s.vm.findClass ("[" ++ (FieldType.array t).toString) = some cA := by
  obtain ⟨comp, cA, kA, h1, -, h2, h3, h4⟩ := arrayOverA_spec h
  exact ⟨cA, fun n z => ⟨fun k h => (by cases h), kA, h2, comp, h3⟩, h4⟩
abbrev lNr : List Cond := flatC (Jvm.Cond.and given_1 narrow_1)
set_option maxRecDepth 100000 in
theorem ln_ex : ∀ i : Nat, i < 8 → (Cond.exactly (lTm i) "java/lang/String") ∈ lNr := fun i hi => by
  exact match i, hi with
    | 0, _ => by decide +kernel
    | 1, _ => by decide +kernel
    | 2, _ => by decide +kernel
    | 3, _ => by decide +kernel
    | 4, _ => by decide +kernel
    | 5, _ => by decide +kernel
    | 6, _ => by decide +kernel
    | 7, _ => by decide +kernel
    | _ + 8, h => absurd h (by omega)
set_option maxRecDepth 100000 in
theorem ln_co : ∀ i : Nat, i < 8 → (Cond.eq (.field (lTm i) "java/lang/String" "coder" "B") (.int 0)) ∈ lNr := fun i hi => by
  exact match i, hi with
    | 0, _ => by decide +kernel
    | 1, _ => by decide +kernel
    | 2, _ => by decide +kernel
    | 3, _ => by decide +kernel
    | 4, _ => by decide +kernel
    | 5, _ => by decide +kernel
    | 6, _ => by decide +kernel
    | 7, _ => by decide +kernel
    | _ + 8, h => absurd h (by omega)
set_option maxRecDepth 100000 in
theorem ln_ar : ∀ i : Nat, i < 8 → (Cond.arrayOf (.field (lTm i) "java/lang/String" "value" "[B") .byte) ∈ lNr := fun i hi => by
  exact match i, hi with
    | 0, _ => by decide +kernel
    | 1, _ => by decide +kernel
    | 2, _ => by decide +kernel
    | 3, _ => by decide +kernel
    | 4, _ => by decide +kernel
    | 5, _ => by decide +kernel
    | 6, _ => by decide +kernel
    | 7, _ => by decide +kernel
    | _ + 8, h => absurd h (by omega)
set_option maxRecDepth 100000 in
theorem ln_le : ∀ i : Nat, i < 8 → (Cond.eq (.length (.field (lTm i) "java/lang/String" "value" "[B")) (.int (Int32.ofNat (gLn.getD i 0)))) ∈ lNr := fun i hi => by
  exact match i, hi with
    | 0, _ => by decide +kernel
    | 1, _ => by decide +kernel
    | 2, _ => by decide +kernel
    | 3, _ => by decide +kernel
    | 4, _ => by decide +kernel
    | 5, _ => by decide +kernel
    | 6, _ => by decide +kernel
    | 7, _ => by decide +kernel
    | _ + 8, h => absurd h (by omega)
set_option maxRecDepth 100000 in
theorem ln_el : ∀ i : Nat, i < 8 → ∀ j : Nat, j < gLn.getD i 0 → (Cond.eq (.elem (.field (lTm i) "java/lang/String" "value" "[B") (.int (Int32.ofNat j))) (.int ((gBy.getD i []).getD j 0))) ∈ lNr := fun i hi => by
  exact match i, hi with
    | 0, _ => fun j hj => match j, hj with
      | 0, _ => by decide +kernel
      | 1, _ => by decide +kernel
      | j + 2, h => absurd (show j + 2 < 2 from h) (by omega)
    | 1, _ => fun j hj => match j, hj with
      | 0, _ => by decide +kernel
      | 1, _ => by decide +kernel
      | 2, _ => by decide +kernel
      | j + 3, h => absurd (show j + 3 < 3 from h) (by omega)
    | 2, _ => fun j hj => match j, hj with
      | 0, _ => by decide +kernel
      | 1, _ => by decide +kernel
      | j + 2, h => absurd (show j + 2 < 2 from h) (by omega)
    | 3, _ => fun j hj => match j, hj with
      | 0, _ => by decide +kernel
      | 1, _ => by decide +kernel
      | 2, _ => by decide +kernel
      | 3, _ => by decide +kernel
      | 4, _ => by decide +kernel
      | 5, _ => by decide +kernel
      | j + 6, h => absurd (show j + 6 < 6 from h) (by omega)
    | 4, _ => fun j hj => match j, hj with
      | 0, _ => by decide +kernel
      | 1, _ => by decide +kernel
      | 2, _ => by decide +kernel
      | 3, _ => by decide +kernel
      | 4, _ => by decide +kernel
      | j + 5, h => absurd (show j + 5 < 5 from h) (by omega)
    | 5, _ => fun j hj => match j, hj with
      | 0, _ => by decide +kernel
      | 1, _ => by decide +kernel
      | 2, _ => by decide +kernel
      | 3, _ => by decide +kernel
      | 4, _ => by decide +kernel
      | 5, _ => by decide +kernel
      | 6, _ => by decide +kernel
      | j + 7, h => absurd (show j + 7 < 7 from h) (by omega)
    | 6, _ => fun j hj => match j, hj with
      | 0, _ => by decide +kernel
      | j + 1, h => absurd (show j + 1 < 1 from h) (by omega)
    | 7, _ => fun j hj => match j, hj with
      | 0, _ => by decide +kernel
      | 1, _ => by decide +kernel
      | 2, _ => by decide +kernel
      | 3, _ => by decide +kernel
      | j + 4, h => absurd (show j + 4 < 4 from h) (by omega)
    | _ + 8, h => absurd h (by omega)
set_option maxRecDepth 100000 in
theorem ln_ne : ∀ i j : Nat, i < j → j < 8 → (Cond.not (Cond.eq (lTm i) (lTm j))) ∈ lNr := fun i j h1 h2 => by
  exact match i, j, h1, h2 with
  | 0, 1, _, _ => by decide +kernel
  | 0, 2, _, _ => by decide +kernel
  | 0, 3, _, _ => by decide +kernel
  | 0, 4, _, _ => by decide +kernel
  | 0, 5, _, _ => by decide +kernel
  | 0, 6, _, _ => by decide +kernel
  | 0, 7, _, _ => by decide +kernel
  | 1, 2, _, _ => by decide +kernel
  | 1, 3, _, _ => by decide +kernel
  | 1, 4, _, _ => by decide +kernel
  | 1, 5, _, _ => by decide +kernel
  | 1, 6, _, _ => by decide +kernel
  | 1, 7, _, _ => by decide +kernel
  | 2, 3, _, _ => by decide +kernel
  | 2, 4, _, _ => by decide +kernel
  | 2, 5, _, _ => by decide +kernel
  | 2, 6, _, _ => by decide +kernel
  | 2, 7, _, _ => by decide +kernel
  | 3, 4, _, _ => by decide +kernel
  | 3, 5, _, _ => by decide +kernel
  | 3, 6, _, _ => by decide +kernel
  | 3, 7, _, _ => by decide +kernel
  | 4, 5, _, _ => by decide +kernel
  | 4, 6, _, _ => by decide +kernel
  | 4, 7, _, _ => by decide +kernel
  | 5, 6, _, _ => by decide +kernel
  | 5, 7, _, _ => by decide +kernel
  | 6, 7, _, _ => by decide +kernel
  | _, j + 8, _, h => absurd h (by omega)
  | i, 0, h, _ => absurd h (by omega)
  | i + 1, 1, h, _ => absurd h (by omega)
  | i + 2, 2, h, _ => absurd h (by omega)
  | i + 3, 3, h, _ => absurd h (by omega)
  | i + 4, 4, h, _ => absurd h (by omega)
  | i + 5, 5, h, _ => absurd h (by omega)
  | i + 6, 6, h, _ => absurd h (by omega)
  | i + 7, 7, h, _ => absurd h (by omega)
set_option maxRecDepth 100000 in
theorem ln_nc : ∀ a b : Nat, 1 ≤ a → a ≤ 6 → 1 ≤ b → b ≤ 6 → a ≠ b → (Cond.not (Cond.castable (gE a) (gE b))) ∈ lNr := fun a b h1 h2 h3 h4 h5 => by
  rcases (show a = 1 ∨ a = 2 ∨ a = 3 ∨ a = 4 ∨ a = 5 ∨ a = 6 by omega) with rfl | rfl | rfl | rfl | rfl | rfl <;> rcases (show b = 1 ∨ b = 2 ∨ b = 3 ∨ b = 4 ∨ b = 5 ∨ b = 6 by omega) with rfl | rfl | rfl | rfl | rfl | rfl <;> first | exact absurd rfl h5 | decide +kernel
set_option maxHeartbeats 4000000 in
set_option maxRecDepth 100000 in
theorem l_ctx {p : Program} {s : State} {m : MethodId} {meth : Method} {c : Code} {bs L : Nat} {xs : Nat → Int32} (C0 : lw_At p s m meth c bs L xs) : ∃ (D : va_G) (Y : Nat → ClassId), gF p s m #[.ref bs] meth c RL code 9 ret D Y (fun q => s.heap.size ≤ q) ∧ gNc s := by
  obtain ⟨hx, hb, hr, hml, hown, hts, hX, hbl, hlocks, hgv⟩ := C0
  have hA : ∀ a : Nat, a < s.heap.size → ¬ (fun q : Nat => s.heap.size ≤ q) a := fun a ha h => by
    have h : s.heap.size ≤ a := h
    omega
  have ha : ∀ w ∈ aw, w.before #[.ref bs] s = true := fun w hw => hts w (List.mem_filter.mp hw).1
  have hn : ∀ w ∈ lNr, w.before #[.ref bs] s = true := flat_of_before _ hgv
  have hw : ∀ (i : Nat) {w : Cond}, lw_tbl[i]? = some w → w.before #[.ref bs] s = true := fun i _ h => hts _ (List.mem_of_getElem? h)
  obtain ⟨c0, i0, k0⟩ := u_known (C := RX0) (T := TX0) (N := 2) (n := 2) ha fdX0.2.2.1 (hw 158 (by decide +kernel))
  obtain ⟨c1, i1, k1⟩ := u_known (C := RX1) (T := TX1) (N := 7) (n := 7) ha fdX1.2.2.1 (hw 95 (by decide +kernel))
  obtain ⟨c2, i2, k2⟩ := u_known (C := RX2) (T := TX2) (N := 4) (n := 4) ha fdX2.2.2.1 (hw 552 (by decide +kernel))
  obtain ⟨c3, i3, k3⟩ := u_known (C := RX3) (T := TX3) (N := 6) (n := 6) ha fdX3.2.2.1 (hw 97 (by decide +kernel))
  obtain ⟨c4, i4, k4⟩ := u_known (C := RX4) (T := TX4) (N := 4) (n := 4) ha fdX4.2.2.1 (hw 86 (by decide +kernel))
  obtain ⟨c5, i5, k5⟩ := u_known (C := RX5) (T := TX5) (N := 23) (n := 23) ha fdX5.2.2.1 (hw 1054 (by decide +kernel))
  obtain ⟨D, hD⟩ : ∃ D : va_G, ∀ (c : Nat) (q : vw_C), gCl[c]? = some q → u_Kn s q.1 q.2.1 q.2.2 (D.1 c) (D.2 c) := by
    refine ⟨(fun c => [c0, c1, c2, c3, c4, c5].getD c 0, fun c => [i0, i1, i2, i3, i4, i5].getD c i0), fun c q h => ?_⟩
    have hlt : c < 6 := (List.getElem?_eq_some_iff.mp h).1
    rcases (show c = 0 ∨ c = 1 ∨ c = 2 ∨ c = 3 ∨ c = 4 ∨ c = 5 by omega) with rfl | rfl | rfl | rfl | rfl | rfl
    · cases h; exact k0
    · cases h; exact k1
    · cases h; exact k2
    · cases h; exact k3
    · cases h; exact k4
    · cases h; exact k5
  obtain ⟨y0, a0, n0⟩ := arr_of (ty := .int) (hw 125 (by decide +kernel))
  obtain ⟨y1, a1, n1⟩ := arr_of (ty := .boolean) (hw 174 (by decide +kernel))
  obtain ⟨y2, a2, n2⟩ := arr_of (ty := .char) (hw 1131 (by decide +kernel))
  obtain ⟨y3, a3, n3⟩ := arr_ofO (C := RX1) (hw 94 (by decide +kernel))
  obtain ⟨y4, a4, n4⟩ := arr_ofA (t := .int) (hw 1060 (by decide +kernel))
  obtain ⟨adK, adV, hVS, hev⟩ := vk_Sof (args := #[.ref bs]) (s := s) (N := 8) (tm := lTm) (len := gLn) (byt := gBy) (A := fun q : Nat => s.heap.size ≤ q) (fun i hi => by
      rcases (show i = 0 ∨ i = 1 ∨ i = 2 ∨ i = 3 ∨ i = 4 ∨ i = 5 ∨ i = 6 ∨ i = 7 by omega) with rfl | rfl | rfl | rfl | rfl | rfl | rfl | rfl <;> decide) (fun i hi => hn _ (ln_ex i hi)) (fun i hi => hn _ (ln_co i hi)) (fun i hi => hn _ (ln_ar i hi)) (fun i hi => hn _ (ln_le i hi)) (fun i hi j hj => hn _ (ln_el i hi j hj)) (fun i j hi hj hij => by
      rcases Nat.lt_or_gt_of_ne hij with h | h
      · exact Or.inl (hn _ (ln_ne i j h hj))
      · exact Or.inr (hn _ (ln_ne j i h hi))) hA
  refine ⟨D, lY y0 y1 y2 y3 y4 adK adV, ⟨hx, hb, hml, hown, ha, ⟨hD, fun k q h => ?_⟩, hr, hlocks, ?_, ?_, ⟨fun e => ?_, fun Z hZ => ?_, ?_, ?_⟩, hVS.eqv (fun i hi => ?_) (fun i hi => ?_), ?_, ?_⟩, fun a b h1 h2 h3 h4 h5 => va_Nc.of (hn _ (ln_nc a b h1 h2 h3 h4 h5))⟩
  · have hlt : k < 5 := (List.getElem?_eq_some_iff.mp h).1
    rcases (show k = 0 ∨ k = 1 ∨ k = 2 ∨ k = 3 ∨ k = 4 by omega) with rfl | rfl | rfl | rfl | rfl
    · cases h; exact ⟨a0, n0⟩
    · cases h; exact ⟨a1, n1⟩
    · cases h; exact ⟨a2, n2⟩
    · cases h; exact ⟨a3, n3⟩
    · cases h; exact ⟨a4, n4⟩
  · exact vx_Zqof (hw 425 (by decide +kernel)) (hw 68 (by decide +kernel)) (hn (Cond.isRef (.static "java/lang/Throwable" "UNASSIGNED_STACK" "[Ljava/lang/StackTraceElement;")) (by decide +kernel)) hA
  · exact vx_Zqof (hw 427 (by decide +kernel)) (hw 68 (by decide +kernel)) (hn (Cond.isRef (.static "java/lang/Throwable" "SUPPRESSED_SENTINEL" "Ljava/util/List;")) (by decide +kernel)) hA
  · rcases e with _ | _ | _ | _ | _ | _ | e
    · exact va_Nw.of rfl (hw 1035 (by decide +kernel))
    · exact va_Nw.of rfl (hw 498 (by decide +kernel))
    · exact va_Nw.of rfl (hw 523 (by decide +kernel))
    · exact va_Nw.of rfl (hw 737 (by decide +kernel))
    · exact va_Nw.of rfl (hw 538 (by decide +kernel))
    · exact va_Nw.of rfl (hw 758 (by decide +kernel))
    · show va_Nw (.castable (gE 0) (gE 0)) s
      exact va_Nw.of rfl (hw 1035 (by decide +kernel))
  · rcases List.mem_cons.mp hZ with rfl | hZ
    · exact va_Nw.of rfl (hw 465 (by decide +kernel))
    rcases List.mem_cons.mp hZ with rfl | hZ
    · exact va_Nw.of rfl (hw 467 (by decide +kernel))
    rcases List.mem_cons.mp hZ with rfl | hZ
    · exact va_Nw.of rfl (hw 469 (by decide +kernel))
    exact absurd hZ List.not_mem_nil
  · exact va_AO.of (hw 94 (by decide +kernel))
  · exact hw 1060 (w := Cond.arrayOver (.array .int)) (by decide +kernel)
  · unfold lY
    rw [if_neg (by omega), if_pos (by omega), Nat.add_sub_cancel_left]
  · unfold lY
    rw [if_neg (by omega), if_neg (by omega), Nat.add_sub_cancel_left]
  · exact va_Zof (hw 1167 (by decide +kernel)) (hw 73 (by decide +kernel)) (va_eqt (hn (Cond.eq (.static "java/lang/String" "COMPACT_STRINGS" "Z") (.int 1)) (by decide +kernel))) hA
  · intro q hq
    rcases List.mem_cons.mp hq with rfl | hq
    · exact vk_R.of (hw 1149 (by decide +kernel)) (hev 0 (by omega))
    rcases List.mem_cons.mp hq with rfl | hq
    · exact vk_R.of (hw 1264 (by decide +kernel)) (hev 1 (by omega))
    rcases List.mem_cons.mp hq with rfl | hq
    · exact vk_R.of (hw 1296 (by decide +kernel)) (hev 2 (by omega))
    rcases List.mem_cons.mp hq with rfl | hq
    · exact vk_R.of (hw 1313 (by decide +kernel)) (hev 3 (by omega))
    rcases List.mem_cons.mp hq with rfl | hq
    · exact vk_R.of (hw 1318 (by decide +kernel)) (hev 4 (by omega))
    rcases List.mem_cons.mp hq with rfl | hq
    · exact vk_R.of (hw 1371 (by decide +kernel)) (hev 5 (by omega))
    rcases List.mem_cons.mp hq with rfl | hq
    · exact vk_R.of (hw 1416 (by decide +kernel)) (hev 6 (by omega))
    rcases List.mem_cons.mp hq with rfl | hq
    · exact vk_R.of (hw 1429 (by decide +kernel)) (hev 7 (by omega))
    exact absurd hq List.not_mem_nil
