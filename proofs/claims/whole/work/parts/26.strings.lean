/-! the reference's texts; new int[2][24] -/
def gLen (k : Nat) : Int32 := Int32.ofNat (gLn.getD k 0)
def gByt (k : Nat) (i : Int32) : Int32 := (gBy.getD k []).getD i.toNatClampNeg 0
def gmna (S : GS) (hs : Nat) : GS := gsR (gsR (gnw (gnw (gnw S hs 15 2) (hs + 1) 11 24) (hs + 2) 11 24) hs 0 (some (hs + 1))) hs 1 (some (hs + 2))
theorem garr {c : ClassId} {N : Nat} {f g : Nat → Value} (h : ∀ j, j < N → f j = g j) : arrV c N f = arrV c N g := by
  unfold arrV
  have e : (fun j : Fin N => f j.val) = fun j : Fin N => g j.val := funext fun j => h j.val j.isLt
  rw [e]
theorem gouter (c : ClassId) (h0 : Nat) : Jvm.Free.Multi.outerC c 2 h0 2 = arrV c 2 (updV (updV (fun _ => .null) 0 (.ref (h0 + 1 + 0))) 1 (.ref (h0 + 1 + 1))) := by
  show ((({ cls := c, slots := Array.replicate 2 .null, vm := .none } : Cell).setSlot 0 (.ref (h0 + 1 + 0))).setSlot 1 (.ref (h0 + 1 + 1))) = _
  rw [arrV_new, arrV_store, arrV_store]
section GStr
variable {p : Program} {l : Launch} {e : Env} {R : Room} {s : State} {m : MethodId} {args : Array Value} {below : List Frame} {meth : Method} {c : Code} {H : Heap} {locs : List Loc} {cells slots : Nat} {Q : State → Prop}
variable {cc : ByteArray} {pc : Nat} {ls : Array Slot} {rest st0 : List Value} {D : va_G} {Y : Nat → ClassId} {A : Nat → Prop} {own : String} {nL : Nat} {rt : Option FieldType} {H0 : Heap} {S S' : GS} {hs hs' : Nat} {z : gZt} {mc0 ms0 : Nat}
theorem g_ldcS (hF : gF p s m args meth c RX5 cc nL rt D Y A) {k index : Nat} {tx : String} (hq : (index, tx, k) ∈ gRs) (hdg : decode cc pc = .ok (.ldc index, 2))
    (kk : W p l e R s m args below meth c H locs cells slots Q (F0 m (pc + 2) ls (.ref (Y (100 + k)) :: rest))) : W p l e R s m args below meth c H locs cells slots Q (F0 m pc ls rest) := by
  obtain ⟨hx, hb, hml, hown, hts, hK, hr, hlk, hX⟩ := hF
  exact va_ldcS hx hb hown (hX.2.2.2.2.2 _ hq) hdg kk
theorem g_sval (hF : gF p s m args meth c own cc nL rt D Y A) (hM : gM D Y A s.heap S hs H locs) {k index : Nat} (hk : k < 8) (hl : Cond.fieldLink own index "java/lang/String" "value" "[B" ∈ aw) (hdg : decode cc pc = .ok (.getfield index, 3))
    (kk : W p l e R s m args below meth c H locs cells slots Q (F0 m (pc + 3) ls (.ref (Y (120 + k)) :: rest))) : W p l e R s m args below meth c H locs cells slots Q (F0 m pc ls (.ref (Y (100 + k)) :: rest)) := by
  obtain ⟨hx, hb, hml, hown, hts, hK, hr, hlk, hX⟩ := hF
  exact vk_getf hx hb (hX.2.2.2.1.1 k hk).2.2.1 hM.2.2.2.1 hown (hts _ hl) (fun x h => h) hdg kk
theorem g_scod (hF : gF p s m args meth c own cc nL rt D Y A) (hM : gM D Y A s.heap S hs H locs) {k index : Nat} (hk : k < 8) (hl : Cond.fieldLink own index "java/lang/String" "coder" "B" ∈ aw) (hdg : decode cc pc = .ok (.getfield index, 3))
    (kk : W p l e R s m args below meth c H locs cells slots Q (F0 m (pc + 3) ls (.int 0 :: rest))) : W p l e R s m args below meth c H locs cells slots Q (F0 m pc ls (.ref (Y (100 + k)) :: rest)) := by
  obtain ⟨hx, hb, hml, hown, hts, hK, hr, hlk, hX⟩ := hF
  exact vk_getf hx hb (hX.2.2.2.1.1 k hk).2.1 hM.2.2.2.1 hown (hts _ hl) (fun x h => h) hdg kk
theorem g_gcs (hF : gF p s m args meth c own cc nL rt D Y A) (hM : gM D Y A s.heap S hs H locs) {index : Nat} (hl : Cond.fieldLink own index "java/lang/String" "COMPACT_STRINGS" "Z" ∈ aw) (hdg : decode cc pc = .ok (.getstatic index, 3))
    (kk : W p l e R s m args below meth c H locs cells slots Q (F0 m (pc + 3) ls (.int 1 :: rest))) : W p l e R s m args below meth c H locs cells slots Q (F0 m pc ls rest) := by
  obtain ⟨hx, hb, hml, hown, hts, hK, hr, hlk, hX⟩ := hF
  exact va_gets hx hb hX.2.2.2.2.1 hM.2.2.2.1 hown (hts _ hl) (fun x h => h) hdg kk
theorem g_blen (hF : gF p s m args meth c own cc nL rt D Y A) (hM : gM D Y A s.heap S hs H locs) {k : Nat} (hk : k < 8) (hdg : decode cc pc = .ok (.arraylength, 1))
    (kk : W p l e R s m args below meth c H locs cells slots Q (F0 m (pc + 1) ls (.int (gLen k) :: rest))) : W p l e R s m args below meth c H locs cells slots Q (F0 m pc ls (.ref (Y (120 + k)) :: rest)) := by
  obtain ⟨hx, hb, hml, hown, hts, hK, hr, hlk, hX⟩ := hF
  exact va_tlen hx hb (hX.2.2.2.1.1 k hk).2.2.2 hM.2.2.2.1 rfl hdg kk
theorem g_bald (hF : gF p s m args meth c own cc nL rt D Y A) (hM : gM D Y A s.heap S hs H locs) {k : Nat} {i : Int32} (hk : k < 8 ∧ 0 ≤ i.toInt ∧ i.toInt < (gLn.getD k 0 : Int)) (hdg : decode cc pc = .ok (.baload, 1))
    (kk : W p l e R s m args below meth c H locs cells slots Q (F0 m (pc + 1) ls (.int (gByt k i) :: rest))) : W p l e R s m args below meth c H locs cells slots Q (F0 m pc ls (.int i :: .ref (Y (120 + k)) :: rest)) := by
  obtain ⟨hx, hb, hml, hown, hts, hK, hr, hlk, hX⟩ := hF
  exact va_tb hx hb (hX.2.2.2.1.1 k hk.1).2.2.2 hM.2.2.2.1 (vp_in_iff.mpr hk.2) rfl hdg kk
/-- a call by one of the texts -/
theorem g_callT (hF : gF p s m args meth c own cc nL rt D Y A) (hM : gM D Y A s.heap S hs H locs) {y : MethodName} {bytes : ByteArray} {maxL index n k : Nat} {ret : Option FieldType} {rm : Room} {As : List Value} {rv : Option Value} (hMet : gMet l y (gWs y bytes maxL ret) rm (.ref (Y (100 + k)) :: As) D Y S hs rv S' hs') (hk : gKc y bytes maxL ret n) (hl : Cond.methodLink own index y ∈ aw) (hin : Cond.instanceMethod y ∈ aw) (hse : Cond.selects y.cls y y ∈ aw)
    (hC : y.cls = "java/lang/String") (hT : k < 8) (hn : As.length = n) (hsize : ls.size = nL) (hst : st0 = As.reverse ++ .ref (Y (100 + k)) :: rest) (hW : (rest.map fun v => v.category).sum ≤ 8) (hdg : decode cc pc = .ok (.invokevirtual index, 3)) (hR : rm.frames + 1 ≤ R.frames ∧ 8 + (maxL + 11) + rm.locals ≤ R.locals) (hf : cells + rm.cells ≤ R.cells ∧ slots + rm.slots ≤ R.slots)
    (kk : ∀ (H1 : Heap) (locs1 : List Loc), gM D Y A s.heap S' hs' H1 locs1 → W p l e R s m args below meth c H1 locs1 (cells + rm.cells) (slots + rm.slots) Q (F0 m (pc + 3) ls (rv.toList ++ rest))) : W p l e R s m args below meth c H locs cells slots Q (F0 m pc ls st0) := by
  have hts := hF.2.2.2.2.1
  have hX := hF.2.2.2.2.2.2.2.2
  have hrc := vk_recv (i := k) hX.2.2.2.1 hT hM.2.2.2.1
  refine g_call hM (va_runV (As := As) (rest := rest) ⟨hF.1, hF.2.1, hF.2.2.1, hF.2.2.2.1, hts⟩ hMet ⟨g_callB hF hk hl hR, hts _ hin, hts _ hse⟩ ⟨gPre.blind, hC ▸ hrc, fun U hU hW => ⟨rfl, gPre.at hF hM hU hW⟩⟩ rfl hn hsize hst (lv_room hW) hdg hf) kk
/-- new int[2][24] -/
theorem g_mna (hF : gF p s m args meth c own cc nL rt D Y A) (hM : gM D Y A H0 S hs H locs) {index : Nat} (hcl : Cond.classLink own index "[[I" ∈ aw) (harr : Cond.arrayClass (newarray.typeOf .int) ∈ aw) (hcells : cells + 3 ≤ R.cells) (hslots : slots + 50 ≤ R.slots) (hdg : decode cc pc = .ok (.multianewarray index 2, 4))
    (kk : ∀ (H1 : Heap), gM D Y A H0 (gmna S hs) (hs + 3) H1 locs → W p l e R s m args below meth c H1 locs (cells + 3) (slots + 50) Q (F0 m (pc + 4) ls (va_rf (some hs) :: rest))) : W p l e R s m args below meth c H locs cells slots Q (F0 m pc ls (.int 24 :: .int 2 :: rest)) := by
  obtain ⟨hx, hb, hml, hown, hts, hK, hr, hlk, hX⟩ := hF
  intro T hT Xs
  obtain ⟨vm₁, cA, comp, -, fA, fC, hO, -, X', step⟩ := Xs.multianewarray2F (ty := .int) hx hown (hts _ hcl) hX.2.2.1.2.2.2 (hts _ harr) (g := F0 m pc ls (.int 24 :: .int 2 :: rest)) rfl (by rw [hb]; exact hdg) rfl (by decide) (by decide) (by decide) (by decide) (by decide) rfl rfl hcells hslots
  have hz := hM.1
  have h4 := (hK.2 4 _ rfl).2
  have e4 : cA = Y 4 := Option.some.inj (fA.symm.trans h4)
  have e0 : comp = Y 0 := Option.some.inj (fC.symm.trans (hK.2 0 _ rfl).2)
  subst e4
  subst e0
  have n2 : (2 : Int32).toNatClampNeg = 2 := by decide
  have n24 : (24 : Int32).toNatClampNeg = 24 := by decide
  rw [n2, n24] at X' step
  generalize hFm : Jvm.Free.Multi.fill (T.setVm vm₁) (Y 4) (Y 0) 2 24 (defaultValue .int) 2 = F at X' step
  have hTh : (T.setVm vm₁).heap = H := hT
  obtain ⟨f1, f2, -, -⟩ := Jvm.Free.Multi.fill_facts (T.setVm vm₁) (Y 4) (Y 0) 2 24 (defaultValue .int) 2
  rw [hFm, hTh, hz] at f1 f2
  have hold : ∀ x : Nat, x < hs → F.heap[x]? = H[x]? := fun x hx => by
    have := Jvm.Free.Multi.fill_old (T.setVm vm₁) (Y 4) (Y 0) 2 24 (defaultValue .int) (a := x) (by rw [hTh, hz]; exact hx) 2
    rw [hFm, hTh] at this
    exact this
  have hrow : ∀ j : Nat, j < 2 → F.heap[hs + 1 + j]? = some (arrV (Y 0) 24 (fun _ => .int 0)) := fun j hj => by
    have := Jvm.Free.Multi.fill_inner (T.setVm vm₁) (Y 4) (Y 0) 2 24 (defaultValue .int) 2 j hj
    rw [hFm, hTh, hz] at this
    rw [this]
    exact congrArg some (arrV_new ..)
  rw [gouter] at f2
  have hM2 : gM D Y A H0 (gmna S hs) (hs + 3) F.heap locs := by
    obtain ⟨m1, m2, m3, m4, m5⟩ := hM
    have m41 := m4.1
    refine ⟨by rw [f1], fun b => ?_, fun b hb => ?_, ⟨by rw [f1]; omega, fun q h1 h3 => (hold q (by omega)).trans (m4.2.1 q h1 h3), m4.2.2⟩, m5⟩
    · by_cases b0 : b = hs
      · subst b0
        refine ⟨fun ci r h1 h2 => ?_, fun y b' h1 => ?_⟩
        · have h3 : 15 = ci + 1 := by simpa [gmna, gsR, gnw, gT] using h1
          have : ci = 14 := by omega
          subst this
          cases h2
        · have h3 : gArr 15 = some (y, b') := by simpa [gmna, gsR, gnw, gT] using h1
          cases h3
          rw [f2]
          have hz : gZ (gmna S b) b = 2 := by simp [gmna, gsR, gnw, gZ]
          rw [hz]
          refine congrArg some (garr (fun j hj => ?_))
          have : j = 0 ∨ j = 1 := by omega
          rcases this with rfl | rfl <;> simp [gW, gmna, gsR, gnw, gR, gu2, updV, va_rf]
      · by_cases b1 : b = hs + 1
        · subst b1
          refine ⟨fun ci r h1 h2 => ?_, fun y b' h1 => ?_⟩
          · have h3 : 11 = ci + 1 := by simpa [gmna, gsR, gnw, gT] using h1
            have : ci = 10 := by omega
            subst this
            cases h2
          · have h3 : gArr 11 = some (y, b') := by simpa [gmna, gsR, gnw, gT] using h1
            cases h3
            have := hrow 0 (by omega)
            rw [show hs + 1 + 0 = hs + 1 from rfl] at this
            rw [this]
            have hz : gZ (gmna S hs) (hs + 1) = 24 := by simp [gmna, gsR, gnw, gZ]
            rw [hz]
            refine congrArg some (garr (fun j hj => ?_))
            simp [gW, gmna, gsR, gnw, gI]
        · by_cases b2 : b = hs + 2
          · subst b2
            refine ⟨fun ci r h1 h2 => ?_, fun y b' h1 => ?_⟩
            · have h3 : 11 = ci + 1 := by simpa [gmna, gsR, gnw, gT] using h1
              have : ci = 10 := by omega
              subst this
              cases h2
            · have h3 : gArr 11 = some (y, b') := by simpa [gmna, gsR, gnw, gT] using h1
              cases h3
              have := hrow 1 (by omega)
              rw [show hs + 1 + 1 = hs + 2 from rfl] at this
              rw [this]
              have hz : gZ (gmna S hs) (hs + 2) = 24 := by simp [gmna, gsR, gnw, gZ]
              rw [hz]
              refine congrArg some (garr (fun j hj => ?_))
              simp [gW, gmna, gsR, gnw, gI]
          · have hsame : gSame S (gmna S hs) b := ⟨by simp [gmna, gsR, gnw, gT, b0, b1, b2], by simp [gmna, gsR, gnw, gZ, b0, b1, b2], fun j => by simp [gmna, gsR, gnw, gI, b0, b1, b2], fun j => by simp [gmna, gsR, gnw, gR, gu2, b0, b1, b2]⟩
            by_cases hl : b < hs
            · exact (m2 b).moved hsame (hold b hl)
            · refine ⟨fun ci r h1 h3 => ?_, fun y b' h1 => ?_⟩
              · exact absurd (m2.lt (Or.inl ⟨ci, r, by rw [← hsame.1]; exact h1, h3⟩)) (by omega)
              · exact absurd (m2.lt (Or.inr ⟨_, by rw [← hsame.1]; exact h1⟩)) (by omega)
    · by_cases hl : b < hs
      · have b0 : b ≠ hs := by omega
        have b1 : b ≠ hs + 1 := by omega
        have b2 : b ≠ hs + 2 := by omega
        exact m3 b (by simpa [gmna, gsR, gnw, gT, b0, b1, b2] using hb)
      · exact m5 b (by omega)
  have hz2 : T.heap.size = hs := by rw [hT]; exact hz
  obtain ⟨t, a1, b1⟩ := kk F.heap hM2 F rfl X'
  refine ⟨t, step t ?_, b1⟩
  rw [hz2]
  exact a1
end GStr
