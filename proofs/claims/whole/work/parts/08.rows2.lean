section GRows2
variable {p : Program} {l : Launch} {e : Env} {R : Room} {s : State} {m : MethodId} {args : Array Value} {below : List Frame} {meth : Method} {c : Code} {H : Heap} {locs : List Loc} {cells slots : Nat} {Q : State → Prop}
variable {cc : ByteArray} {pc : Nat} {ls : Array Slot} {rest : List Value} {D : va_G} {Y : Nat → ClassId} {A : Nat → Prop} {own : String} {nL : Nat} {rt : Option FieldType} {H0 : Heap} {S S' : GS} {hs : Nat}
theorem gW_i {a : Nat} : (fun j => gW false S a j) = fun j => .int (gI S a j) := rfl
theorem gW_r {a : Nat} : (fun j => gW true S a j) = fun j => va_rf (gR S a j) := rfl
theorem g_iald (hF : gF p s m args meth c own cc nL rt D Y A) (hM : gM D Y A H0 S hs H locs) {p0 : Option Nat} {i v : Int32} (hv : gaI S p0 11 i = some v) (hdg : decode cc pc = .ok (.iaload, 1))
    (kk : W p l e R s m args below meth c H locs cells slots Q (F0 m (pc + 1) ls (.int v :: rest))) : W p l e R s m args below meth c H locs cells slots Q (F0 m pc ls (.int i :: va_rf p0 :: rest)) := by
  obtain ⟨hx, hb, hml, hown, hts, hK, -⟩ := hF
  obtain ⟨a, rfl, hT, hin, rfl⟩ := gaI_of hv
  have hcell := (hM.2.1 a).2 0 false (by rw [hT]; rfl)
  have hlt : i.toNatClampNeg < gZ S a := Nat.not_le.mp fun q => hin (Or.inr q)
  exact W.iald (v := .int (gI S a i.toNatClampNeg)) hx hb hcell ((hK.2 0 _ rfl).1 _ _) (fun q => by cases q) (by rw [arrV_size]; exact hin) (by rw [arrV_read _ _ hlt]; rfl) rfl rfl hdg kk
theorem g_zald (hF : gF p s m args meth c own cc nL rt D Y A) (hM : gM D Y A H0 S hs H locs) {p0 : Option Nat} {i v : Int32} (hv : gaI S p0 12 i = some v) (hdg : decode cc pc = .ok (.baload, 1))
    (kk : W p l e R s m args below meth c H locs cells slots Q (F0 m (pc + 1) ls (.int v :: rest))) : W p l e R s m args below meth c H locs cells slots Q (F0 m pc ls (.int i :: va_rf p0 :: rest)) := by
  obtain ⟨hx, hb, hml, hown, hts, hK, -⟩ := hF
  obtain ⟨a, rfl, hT, hin, rfl⟩ := gaI_of hv
  have hcell := (hM.2.1 a).2 1 false (by rw [hT]; rfl)
  have hlt : i.toNatClampNeg < gZ S a := Nat.not_le.mp fun q => hin (Or.inr q)
  exact W.zald (v := .int (gI S a i.toNatClampNeg)) hx hb hcell ((hK.2 1 _ rfl).1 _ _) (fun q => by cases q) (by rw [arrV_size]; exact hin) (by rw [arrV_read _ _ hlt]; rfl) rfl rfl hdg kk
theorem g_cald (hF : gF p s m args meth c own cc nL rt D Y A) (hM : gM D Y A H0 S hs H locs) {p0 : Option Nat} {i v : Int32} (hv : gaI S p0 13 i = some v) (hdg : decode cc pc = .ok (.caload, 1))
    (kk : W p l e R s m args below meth c H locs cells slots Q (F0 m (pc + 1) ls (.int v :: rest))) : W p l e R s m args below meth c H locs cells slots Q (F0 m pc ls (.int i :: va_rf p0 :: rest)) := by
  obtain ⟨hx, hb, hml, hown, hts, hK, -⟩ := hF
  obtain ⟨a, rfl, hT, hin, rfl⟩ := gaI_of hv
  have hcell := (hM.2.1 a).2 2 false (by rw [hT]; rfl)
  have hlt : i.toNatClampNeg < gZ S a := Nat.not_le.mp fun q => hin (Or.inr q)
  exact W.cald (v := .int (gI S a i.toNatClampNeg)) hx hb hcell ((hK.2 2 _ rfl).1 _ _) (fun q => by cases q) (by rw [arrV_size]; exact hin) (by rw [arrV_read _ _ hlt]; rfl) rfl rfl hdg kk
theorem g_aald (hF : gF p s m args meth c own cc nL rt D Y A) (hM : gM D Y A H0 S hs H locs) {p0 v : Option Nat} {i : Int32} {t : Nat} (ht : t = 14 ∨ t = 15) (hv : gaR S p0 t i = some v) (hdg : decode cc pc = .ok (.aaload, 1))
    (kk : W p l e R s m args below meth c H locs cells slots Q (F0 m (pc + 1) ls (va_rf v :: rest))) : W p l e R s m args below meth c H locs cells slots Q (F0 m pc ls (.int i :: va_rf p0 :: rest)) := by
  obtain ⟨hx, hb, hml, hown, hts, hK, -⟩ := hF
  obtain ⟨a, rfl, hT, hin, rfl⟩ := gaR_of hv
  have hlt : i.toNatClampNeg < gZ S a := Nat.not_le.mp fun q => hin (Or.inr q)
  rcases ht with rfl | rfl
  · have hcell := (hM.2.1 a).2 3 true (by rw [hT]; rfl)
    exact W.aald (v := va_rf (gR S a i.toNatClampNeg)) (ty := .object RX1) hx hb hcell ((hK.2 3 _ rfl).1 _ _) rfl (fun q => by cases q) (by rw [arrV_size]; exact hin) (by rw [arrV_read _ _ hlt]; rfl) rfl rfl hdg kk
  · have hcell := (hM.2.1 a).2 4 true (by rw [hT]; rfl)
    exact W.aald (v := va_rf (gR S a i.toNatClampNeg)) (ty := .array .int) hx hb hcell ((hK.2 4 _ rfl).1 _ _) rfl (fun q => by cases q) (by rw [arrV_size]; exact hin) (by rw [arrV_read _ _ hlt]; rfl) rfl rfl hdg kk
theorem g_alen (hF : gF p s m args meth c own cc nL rt D Y A) (hM : gM D Y A H0 S hs H locs) {p0 : Option Nat} {v : Int32} {t : Nat} (ht : t = 11 ∨ t = 12) (hv : gal S p0 t = some v) (hdg : decode cc pc = .ok (.arraylength, 1))
    (kk : W p l e R s m args below meth c H locs cells slots Q (F0 m (pc + 1) ls (.int v :: rest))) : W p l e R s m args below meth c H locs cells slots Q (F0 m pc ls (va_rf p0 :: rest)) := by
  obtain ⟨hx, hb, hml, hown, hts, hK, -⟩ := hF
  obtain ⟨a, rfl, hT, rfl⟩ := gal_of hv
  rcases ht with rfl | rfl
  · have hcell := (hM.2.1 a).2 0 false (by rw [hT]; rfl)
    exact W.alen (n := Int32.ofNat (gZ S a)) hx hb hcell ((hK.2 0 _ rfl).1 _ _) (by rw [arrV_size]) rfl rfl hdg kk
  · have hcell := (hM.2.1 a).2 1 false (by rw [hT]; rfl)
    exact W.alen (n := Int32.ofNat (gZ S a)) hx hb hcell ((hK.2 1 _ rfl).1 _ _) (by rw [arrV_size]) rfl rfl hdg kk
/-- an array cell behind a store -/
theorem gAt_arr {H1 : Heap} {a y : Nat} {b : Bool} {j : Nat} {x : Value} (hT : gArr (gT S a) = some (y, b)) (hT' : gT S' a = gT S a) (hZ : gZ S' a = gZ S a) (hw : (fun k => gW b S' a k) = updV (fun k => gW b S a k) j x) (e1 : H1[a]? = some ((arrV (Y y) (gZ S a) (fun k => gW b S a k)).setSlot j x)) : gAt D Y S' H1 a := by
  refine ⟨fun ci r h1 h2 => ?_, fun y' b' h1 => ?_⟩
  · rw [hT'] at h1
    have hlt : ci < 6 := (List.getElem?_eq_some_iff.mp h2).1
    have : ci = 0 ∨ ci = 1 ∨ ci = 2 ∨ ci = 3 ∨ ci = 4 ∨ ci = 5 := by omega
    rw [h1] at hT
    rcases this with rfl | rfl | rfl | rfl | rfl | rfl <;> cases hT
  · rw [hT', hT] at h1
    cases h1
    rw [e1, arrV_store, hZ, hw]
theorem gW_setI {a j : Nat} {x : Int32} : (fun k => gW false (gsI S a j x) a k) = updV (fun k => gW false S a k) j (.int x) := by
  funext k
  by_cases hk : k = j
  · subst hk; simp [gW, updV, gsI, gI, gu2]
  · simp [gW, updV, gsI, gI, gu2, hk]
theorem gW_setR {a j : Nat} {x : Option Nat} : (fun k => gW true (gsR S a j x) a k) = updV (fun k => gW true S a k) j (va_rf x) := by
  funext k
  by_cases hk : k = j
  · subst hk; simp [gW, updV, gsR, gR, gu2]
  · simp [gW, updV, gsR, gR, gu2, hk]
theorem g_iast (hF : gF p s m args meth c own cc nL rt D Y A) (hM : gM D Y A H0 S hs H locs) {p0 : Option Nat} {i v : Int32} (hv : gsaI S p0 11 i v = some S') (hdg : decode cc pc = .ok (.iastore, 1))
    (kk : ∀ (H1 : Heap) (locs1 : List Loc), gM D Y A H0 S' hs H1 locs1 → W p l e R s m args below meth c H1 locs1 cells slots Q (F0 m (pc + 1) ls rest)) : W p l e R s m args below meth c H locs cells slots Q (F0 m pc ls (.int v :: .int i :: va_rf p0 :: rest)) := by
  obtain ⟨hx, hb, hml, hown, hts, hK, -⟩ := hF
  obtain ⟨a, rfl, hT, hin, rfl⟩ := gsaI_of hv
  have hA : gArr (gT S a) = some (0, false) := by rw [hT]; rfl
  have hcell := (hM.2.1 a).2 0 false hA
  refine W.iast hx hb hcell ((hK.2 0 _ rfl).1 _ _) (fun q => by cases q) (by rw [arrV_size]; exact hin) rfl rfl hdg fun H1 e1 z oq => ?_
  exact kk H1 _ (hM.put (fun b hb => gsI_same hb) rfl (by rw [hT]; decide) (gAt_arr hA rfl rfl gW_setI e1) z oq)
theorem g_zast (hF : gF p s m args meth c own cc nL rt D Y A) (hM : gM D Y A H0 S hs H locs) {p0 : Option Nat} {i v : Int32} (hv : gsaI S p0 12 i v = some S') (hn : gnr .boolean v = true) (hdg : decode cc pc = .ok (.bastore, 1))
    (kk : ∀ (H1 : Heap) (locs1 : List Loc), gM D Y A H0 S' hs H1 locs1 → W p l e R s m args below meth c H1 locs1 cells slots Q (F0 m (pc + 1) ls rest)) : W p l e R s m args below meth c H locs cells slots Q (F0 m pc ls (.int v :: .int i :: va_rf p0 :: rest)) := by
  obtain ⟨hx, hb, hml, hown, hts, hK, -⟩ := hF
  obtain ⟨a, rfl, hT, hin, rfl⟩ := gsaI_of hv
  have hA : gArr (gT S a) = some (1, false) := by rw [hT]; rfl
  have hcell := (hM.2.1 a).2 1 false hA
  refine W.zast hx hb hcell ((hK.2 1 _ rfl).1 _ _) (fun q => by cases q) (by rw [arrV_size]; exact hin) rfl rfl hdg fun H1 e1 z oq => ?_
  rw [(gnr_of (Or.inr (Or.inl rfl)) hn).1] at e1
  exact kk H1 _ (hM.put (fun b hb => gsI_same hb) rfl (by rw [hT]; decide) (gAt_arr hA rfl rfl gW_setI e1) z oq)
theorem g_cast (hF : gF p s m args meth c own cc nL rt D Y A) (hM : gM D Y A H0 S hs H locs) {p0 : Option Nat} {i v : Int32} (hv : gsaI S p0 13 i v = some S') (hn : gnr .char v = true) (hdg : decode cc pc = .ok (.castore, 1))
    (kk : ∀ (H1 : Heap) (locs1 : List Loc), gM D Y A H0 S' hs H1 locs1 → W p l e R s m args below meth c H1 locs1 cells slots Q (F0 m (pc + 1) ls rest)) : W p l e R s m args below meth c H locs cells slots Q (F0 m pc ls (.int v :: .int i :: va_rf p0 :: rest)) := by
  obtain ⟨hx, hb, hml, hown, hts, hK, -⟩ := hF
  obtain ⟨a, rfl, hT, hin, rfl⟩ := gsaI_of hv
  have hA : gArr (gT S a) = some (2, false) := by rw [hT]; rfl
  have hcell := (hM.2.1 a).2 2 false hA
  refine W.cast hx hb hcell ((hK.2 2 _ rfl).1 _ _) (fun q => by cases q) (by rw [arrV_size]; exact hin) rfl rfl hdg fun H1 e1 z oq => ?_
  rw [(gnr_of (Or.inr (Or.inr rfl)) hn).1] at e1
  exact kk H1 _ (hM.put (fun b hb => gsI_same hb) rfl (by rw [hT]; decide) (gAt_arr hA rfl rfl gW_setI e1) z oq)
/-- a Pane, or null, into an array of them -/
theorem g_aast (hF : gF p s m args meth c own cc nL rt D Y A) (hM : gM D Y A H0 S hs H locs) {p0 v : Option Nat} {i : Int32} (hv : gsaR S p0 14 i v = some S') (hn : ∀ b, v = some b → gT S b = 2) (hdg : decode cc pc = .ok (.aastore, 1))
    (kk : ∀ (H1 : Heap) (locs1 : List Loc), gM D Y A H0 S' hs H1 locs1 → W p l e R s m args below meth c H1 locs1 cells slots Q (F0 m (pc + 1) ls rest)) : W p l e R s m args below meth c H locs cells slots Q (F0 m pc ls (va_rf v :: .int i :: va_rf p0 :: rest)) := by
  obtain ⟨hx, hb, hml, hown, hts, hK, -⟩ := hF
  obtain ⟨a, rfl, hT, hin, rfl⟩ := gsaR_of hv
  have hA : gArr (gT S a) = some (3, true) := by rw [hT]; rfl
  have hcell := (hM.2.1 a).2 3 true hA
  have hlt : i.toNatClampNeg < gZ S a := Nat.not_le.mp fun q => hin (Or.inr q)
  have h0 : ¬ i < 0 := fun q => hin (Or.inl q)
  have hgo : ∀ H' : Heap, H'[a]? = some ((arrV (Y 3) (gZ S a) (fun j => gW true S a j)).setSlot i.toNatClampNeg (va_rf v)) → H'.size = H.size → (∀ q, q ≠ a → H'[q]? = H[q]?) → W p l e R s m args below meth c H' (locs ++ [⟨a, i.toNatClampNeg⟩]) cells slots Q (F0 m (pc + 1) ls rest) := fun H1 e1 z oq =>
    kk H1 _ (hM.put (fun b hb => gsR_same hb) rfl (by rw [hT]; decide) (gAt_arr hA rfl rfl gW_setR e1) z oq)
  cases v with
  | none => exact va_WaastN (C := RX1) hx hb hcell ((hK.2 3 _ rfl).1 _ _) (fun q => by cases q) (by rw [arrV_size]; exact hin) rfl rfl hdg hgo
  | some b =>
    obtain ⟨cellV, g1, g2, g3, -⟩ := (hM.2.1 b).1 1 _ (hn b rfl) rfl
    have hcls := (hK.1 1 _ rfl).2
    obtain ⟨kA, comp, k1, k2, k3, -⟩ := (hK.2 3 _ rfl).2
    have hcomp : comp = D.1 1 := Option.some.inj (k3.symm.trans hcls.1)
    subst hcomp
    obtain ⟨kC, hkC, -⟩ := hcls.2
    exact W.aast hx hb hcell (fun q h => by cases h) (fun h => by cases h) k1 k2 rfl hkC ⟨h0, by rw [arrV_size]; exact hlt⟩ g1 (fun q h => by rw [g3] at h; cases h) (by rw [g2]; exact hkC) (by rw [g2]; exact va_assign hcls) rfl rfl hdg hgo
/-- the world behind a new cell at H.size -/
theorem gM.new {H1 : Heap} {t z : Nat} (hM : gM D Y A H0 S hs H locs) (h2 : gAt D Y (gnw S hs t z) H1 hs) (z1 : H1.size = hs + 1) (oq : ∀ q, q < hs → H1[q]? = H[q]?) : gM D Y A H0 (gnw S hs t z) (hs + 1) H1 locs := by
  obtain ⟨m1, m2, m3, m4, m5⟩ := hM
  refine ⟨z1, fun b => ?_, fun b hb => ?_, ⟨by have := m4.1; omega, fun q h1 h3 => (oq q (by have := m4.1; omega)).trans (m4.2.1 q h1 h3), m4.2.2⟩, m5⟩
  · by_cases hb : b = hs
    · subst hb; exact h2
    · by_cases hl : b < hs
      · exact (m2 b).moved (gnw_same hb) (oq b hl)
      · have hx := gnw_same (S := S) (t := t) (z := z) hb
        refine ⟨fun ci r h1 h3 => ?_, fun y b' h1 => ?_⟩
        · exact absurd (m2.lt (Or.inl ⟨ci, r, by rw [← hx.1]; exact h1, h3⟩)) (by omega)
        · exact absurd (m2.lt (Or.inr ⟨_, by rw [← hx.1]; exact h1⟩)) (by omega)
  · by_cases hba : b = hs
    · subst hba; exact m5 _ (by have := m4.1; omega)
    · exact m3 b (by rw [← (gnw_same (S := S) (t := t) (z := z) hba).1]; exact hb)
theorem g_new (hF : gF p s m args meth c own cc nL rt D Y A) (hM : gM D Y A H0 S hs H locs) {ci N : Nat} {C : String} {T : u_T} {ty : Nat → FieldType} (hd : gFd ci C T N ty) {index : Nat} (hcl : Cond.classLink own index C ∈ aw) (hinst : Cond.instantiable C N ∈ aw) (hini : Cond.initialized C ∈ aw) (hcells : cells + 1 ≤ R.cells) (hslots : slots + N ≤ R.slots) (hdg : decode cc pc = .ok (.new index, 3))
    (kk : ∀ (H1 : Heap), gM D Y A H0 (gnw S hs (ci + 1) 0) (hs + 1) H1 locs → W p l e R s m args below meth c H1 locs (cells + 1) (slots + N) Q (F0 m (pc + 3) ls (va_rf (some hs) :: rest))) : W p l e R s m args below meth c H locs cells slots Q (F0 m pc ls rest) := by
  obtain ⟨hx, hb, hml, hown, hts, hK, -⟩ := hF
  obtain ⟨hc, hty, hin, hp, hnm, hC, hdf⟩ := hd
  have hKn := hK.1 ci _ hc
  refine W.newcK hx hb hown (hts _ hcl) (hts _ hinst) (hts _ hini) rfl hdg hcells hslots hKn.2.1 hM.1 fun H1 kC hkC e1 z1 o1 => ?_
  refine kk H1 (hM.new ⟨fun ci' r' g1 g2 => ?_, fun y b g1 => ?_⟩ z1 o1)
  · have g3 : ci + 1 = ci' + 1 := by simpa [gnw, gT] using g1
    have : ci = ci' := by omega
    subst this
    cases hc.symm.trans g2
    refine (u_born ty hts hin hKn hkC e1 hp).to fun k hk => ?_
    rw [hdf k hk]
    simp [gV, hty, gnw, gI, gR]
  · have hlt : ci < 6 := (List.getElem?_eq_some_iff.mp hc).1
    have g3 : gArr (ci + 1) = some (y, b) := by simpa [gnw, gT] using g1
    have : ci = 0 ∨ ci = 1 ∨ ci = 2 ∨ ci = 3 ∨ ci = 4 ∨ ci = 5 := by omega
    rcases this with rfl | rfl | rfl | rfl | rfl | rfl <;> cases g3
theorem gAt_newa {H1 : Heap} {y : Nat} {b : Bool} {t z : Nat} (hT : gArr t = some (y, b)) (e1 : H1[hs]? = some (arrV (Y y) z (fun _ => if b = true then Value.null else .int 0))) : gAt D Y (gnw S hs t z) H1 hs := by
  refine ⟨fun ci r h1 h2 => ?_, fun y' b' h1 => ?_⟩
  · have h3 : t = ci + 1 := by simpa [gnw, gT] using h1
    have hlt : ci < 6 := (List.getElem?_eq_some_iff.mp h2).1
    have : ci = 0 ∨ ci = 1 ∨ ci = 2 ∨ ci = 3 ∨ ci = 4 ∨ ci = 5 := by omega
    subst h3
    rcases this with rfl | rfl | rfl | rfl | rfl | rfl <;> cases hT
  · have h3 : gArr t = some (y', b') := by simpa [gnw, gT] using h1
    rw [hT] at h3
    cases h3
    rw [e1]
    have hz : gZ (gnw S hs t z) hs = z := by simp [gnw, gZ]
    rw [hz]
    congr 2
    funext k
    cases b <;> simp [gW, gnw, gI, gR, va_rf]
/-- new int[n], new boolean[n], new char[n] -/
theorem g_newa (hF : gF p s m args meth c own cc nL rt D Y A) (hM : gM D Y A H0 S hs H locs) {atype : ArrayType} {t y : Nat} (hat : (atype = .int ∧ t = 11 ∧ y = 0) ∨ (atype = .boolean ∧ t = 12 ∧ y = 1) ∨ (atype = .char ∧ t = 13 ∧ y = 2)) (hac : Cond.arrayClass (newarray.typeOf atype) ∈ aw) {n : Int32} {k : Nat} (hn : 0 ≤ n.toInt ∧ n.toInt ≤ k) (hk : k ≤ 4096) (hcells : cells + 1 ≤ R.cells) (hslots : slots + k ≤ R.slots) (hdg : decode cc pc = .ok (.newarray atype, 2))
    (kk : ∀ (H1 : Heap), gM D Y A H0 (gnw S hs t n.toNatClampNeg) (hs + 1) H1 locs → W p l e R s m args below meth c H1 locs (cells + 1) (slots + k) Q (F0 m (pc + 2) ls (va_rf (some hs) :: rest))) : W p l e R s m args below meth c H locs cells slots Q (F0 m pc ls (.int n :: rest)) := by
  obtain ⟨hx, hb, hml, hown, hts, hK, -⟩ := hF
  have hN : n.toNatClampNeg ≤ k := by
    have : (n.toNatClampNeg : Int) = n.toInt := by
      show ((n.toInt.toNat : Nat) : Int) = n.toInt
      omega
    omega
  have h0 : ¬ n < 0 := by rw [Int32.lt_iff_toInt_lt]; simp; omega
  have hcb : componentBytes (newarray.typeOf atype) ≤ 8 := by cases atype <;> decide
  have hmul : n.toNatClampNeg * componentBytes (newarray.typeOf atype) ≤ 4096 * 8 := Nat.mul_le_mul (by omega) hcb
  refine va_newaK hx hb (hts _ hac) rfl hdg rfl h0 rfl (by omega) hcells (by omega) hM.1 fun H1 cA e1 z1 o1 hAr hNm => ?_
  refine W.widen (k := cells + 1) (n := slots + k) (Nat.le_refl _) (by omega) ?_
  refine kk H1 (hM.new ?_ z1 o1)
  rcases hat with ⟨rfl, rfl, rfl⟩ | ⟨rfl, rfl, rfl⟩ | ⟨rfl, rfl, rfl⟩
  · have h3 : cA = Y 0 := Option.some.inj (hNm.symm.trans (hK.2 0 _ rfl).2)
    subst h3
    exact gAt_newa (b := false) rfl e1
  · have h3 : cA = Y 1 := Option.some.inj (hNm.symm.trans (hK.2 1 _ rfl).2)
    subst h3
    exact gAt_newa (b := false) rfl e1
  · have h3 : cA = Y 2 := Option.some.inj (hNm.symm.trans (hK.2 2 _ rfl).2)
    subst h3
    exact gAt_newa (b := false) rfl e1
/-- new Pane[n] -/
theorem g_newq (hF : gF p s m args meth c own cc nL rt D Y A) (hM : gM D Y A H0 S hs H locs) {index : Nat} (hcl : Cond.classLink own index RX1 ∈ aw) {n : Int32} {k : Nat} (hn : 0 ≤ n.toInt ∧ n.toInt ≤ k) (hk : k ≤ 4096) (hcells : cells + 1 ≤ R.cells) (hslots : slots + k ≤ R.slots) (hdg : decode cc pc = .ok (.anewarray index, 3))
    (kk : ∀ (H1 : Heap), gM D Y A H0 (gnw S hs 14 n.toNatClampNeg) (hs + 1) H1 locs → W p l e R s m args below meth c H1 locs (cells + 1) (slots + k) Q (F0 m (pc + 3) ls (va_rf (some hs) :: rest))) : W p l e R s m args below meth c H locs cells slots Q (F0 m pc ls (.int n :: rest)) := by
  obtain ⟨hx, hb, hml, hown, hts, hK, hr, hlk, hX⟩ := hF
  have hN : n.toNatClampNeg ≤ k := by
    have : (n.toNatClampNeg : Int) = n.toInt := by
      show ((n.toInt.toNat : Nat) : Int) = n.toInt
      omega
    omega
  have h0 : ¬ n < 0 := by rw [Int32.lt_iff_toInt_lt]; simp; omega
  refine W.anew hx hb hown (hts _ hcl) hX.2.2.1.2.2.1 rfl hdg rfl h0 (by omega) hcells (by omega) fun cA kA comp f1 f2 f3 f4 => ?_
  refine W.widen (k := cells + 1) (n := slots + k) (Nat.le_refl _) (by omega) ?_
  have hz := hM.1
  generalize hH1 : H.push ({ cls := cA, slots := Array.replicate n.toNatClampNeg .null, vm := .none } : Cell) = H1
  have z1 : H1.size = hs + 1 := by rw [← hH1, Array.size_push, hz]
  have e1 : H1[hs]? = some (arrV cA n.toNatClampNeg (fun _ => .null)) := by rw [← hH1, ← hz, Array.getElem?_push_size, ← arrV_new]
  have o1 : ∀ q : Nat, q < hs → H1[q]? = H[q]? := fun q hq => by rw [← hH1, Array.getElem?_push, if_neg (by omega)]
  obtain ⟨_, _, _, _, _, h4⟩ := (hK.2 3 _ rfl).2
  have h3 : cA = Y 3 := Option.some.inj (f1.symm.trans h4)
  subst h3
  rw [hz]
  exact kk H1 (hM.new (gAt_newa (b := true) rfl e1) z1 o1)
end GRows2
