section GRows
variable {p : Program} {l : Launch} {e : Env} {R : Room} {s : State} {m : MethodId} {args : Array Value} {below : List Frame} {meth : Method} {c : Code} {H : Heap} {locs : List Loc} {cells slots : Nat} {Q : State → Prop}
variable {cc : ByteArray} {pc : Nat} {ls : Array Slot} {rest : List Value} {D : va_G} {Y : Nat → ClassId} {A : Nat → Prop} {own : String} {nL : Nat} {rt : Option FieldType} {H0 : Heap} {S S' : GS} {hs : Nat}
/-- the world behind a write at a -/
theorem gM.put {H1 : Heap} {a k : Nat} (hM : gM D Y A H0 S hs H locs) (h1 : ∀ b, b ≠ a → gSame S S' b) (hT : gT S' a = gT S a) (hn : gT S a ≠ 0) (h2 : gAt D Y S' H1 a) (z : H1.size = H.size) (oq : ∀ q, q ≠ a → H1[q]? = H[q]?) : gM D Y A H0 S' hs H1 (locs ++ [⟨a, k⟩]) := by
  obtain ⟨m1, m2, m3, m4, m5⟩ := hM
  refine ⟨by rw [z]; exact m1, fun b => ?_, fun b hb => ?_, m4.put z oq (m3 a hn), m5⟩
  · by_cases hb : b = a
    · subst hb; exact h2
    · exact (m2 b).moved (h1 b hb) (oq b hb)
  · by_cases hba : b = a
    · subst hba; exact m3 b hn
    · exact m3 b (by rw [← (h1 b hba).1]; exact hb)
theorem g_get0 (hF : gF p s m args meth c own cc nL rt D Y A) (hM : gM D Y A H0 S hs H locs) {ci N : Nat} {C : String} {T : u_T} {ty : Nat → FieldType} (hd : gFd ci C T N ty) {k index a : Nat} (hk : k < N) (hT : gT S a = ci + 1) (hl : Cond.fieldLink own index C (T k).2.1 (T k).2.2.1 ∈ aw) (hdg : decode cc pc = .ok (.getfield index, 3))
    (kk : W p l e R s m args below meth c H locs cells slots Q (F0 m (pc + 3) ls (gV (ci + 1) S a k :: rest))) : W p l e R s m args below meth c H locs cells slots Q (F0 m pc ls (.ref a :: rest)) := by
  obtain ⟨hx, hb, hml, hown, hts, hK, -⟩ := hF
  obtain ⟨hc, hty, hin, hp, hnm, hC, -⟩ := hd
  obtain ⟨cell, q1, q2, q3, q4⟩ := (hM.2.1 a).1 ci _ hT hc
  obtain ⟨hS, hfc, kC, hkC, hkind⟩ := hK.1 ci _ hc
  obtain ⟨cf, kf, fi, f, hi, hsl⟩ := hS k hk
  have hi2 : s.fieldFound? C (T k).2.1 (T k).2.2.1 = some (cf, kf, fi, f) := by rw [← hC k hk]; rw [hC k hk] at hi ⊢; exact hi
  refine W.getf hx hb hown (hts _ hl) hi2 (u_facts hfc hkC (u_lays hts hin hk) hi).1 q1 (by rw [q3]; exact fun h => by cases h) (v := gV (ci + 1) S a k) ?_ rfl rfl hdg kk
  rw [hsl, q4 k hk]
theorem g_getI (hF : gF p s m args meth c own cc nL rt D Y A) (hM : gM D Y A H0 S hs H locs) {ci N : Nat} {C : String} {T : u_T} {ty : Nat → FieldType} (hd : gFd ci C T N ty) {k index : Nat} {p0 : Option Nat} {v : Int32} (hv : gfI S p0 (ci + 1) k = some v) (hk : k < N) (hr : gIsR (ty k) = false) (hl : Cond.fieldLink own index C (T k).2.1 (T k).2.2.1 ∈ aw) (hdg : decode cc pc = .ok (.getfield index, 3))
    (kk : W p l e R s m args below meth c H locs cells slots Q (F0 m (pc + 3) ls (.int v :: rest))) : W p l e R s m args below meth c H locs cells slots Q (F0 m pc ls (va_rf p0 :: rest)) := by
  obtain ⟨a, rfl, hT, rfl⟩ := gfI_of hv
  refine g_get0 hF hM hd hk hT hl hdg ?_
  have : gV (ci + 1) S a k = .int (gI S a k) := by unfold gV; rw [hd.2.1, hr]; rfl
  rw [this]
  exact kk
theorem g_getR (hF : gF p s m args meth c own cc nL rt D Y A) (hM : gM D Y A H0 S hs H locs) {ci N : Nat} {C : String} {T : u_T} {ty : Nat → FieldType} (hd : gFd ci C T N ty) {k index : Nat} {p0 v : Option Nat} (hv : gfR S p0 (ci + 1) k = some v) (hk : k < N) (hr : gIsR (ty k) = true) (hl : Cond.fieldLink own index C (T k).2.1 (T k).2.2.1 ∈ aw) (hdg : decode cc pc = .ok (.getfield index, 3))
    (kk : W p l e R s m args below meth c H locs cells slots Q (F0 m (pc + 3) ls (va_rf v :: rest))) : W p l e R s m args below meth c H locs cells slots Q (F0 m pc ls (va_rf p0 :: rest)) := by
  obtain ⟨a, rfl, hT, rfl⟩ := gfR_of hv
  refine g_get0 hF hM hd hk hT hl hdg ?_
  have : gV (ci + 1) S a k = va_rf (gR S a k) := by unfold gV; rw [hd.2.1, hr]; rfl
  rw [this]
  exact kk
theorem g_put0 (hF : gF p s m args meth c own cc nL rt D Y A) (hM : gM D Y A H0 S hs H locs) {ci N : Nat} {C : String} {T : u_T} {ty : Nat → FieldType} (hd : gFd ci C T N ty) {k index a : Nat} {v : Value} (hk : k < N) (hT : gT S a = ci + 1) (hfin : (T k).2.2.2 = false ∨ ((T k).2.2.2 = true ∧ meth.name = "<init>" ∧ C = own)) (h1 : ∀ b, b ≠ a → gSame S S' b) (h2 : gT S' a = gT S a) (h3 : gV (ci + 1) S' a = updV (gV (ci + 1) S a) k v)
    (hn : narrow (ty k) v = v) (hfit : fits (ty k) v = true) (hl : Cond.fieldLink own index C (T k).2.1 (T k).2.2.1 ∈ aw) (hdg : decode cc pc = .ok (.putfield index, 3))
    (kk : ∀ (H1 : Heap) (locs1 : List Loc), gM D Y A H0 S' hs H1 locs1 → W p l e R s m args below meth c H1 locs1 cells slots Q (F0 m (pc + 3) ls rest)) : W p l e R s m args below meth c H locs cells slots Q (F0 m pc ls (v :: .ref a :: rest)) := by
  obtain ⟨hx, hb, hml, hown, hts, hK, -⟩ := hF
  obtain ⟨hc, hty, hin, hp, hnm, hC, -⟩ := hd
  have hap := va_apart (own := own) hts hin ty hp hnm hK hc
  obtain ⟨cell, q1, q2, q3, q4⟩ := (hM.2.1 a).1 ci _ hT hc
  obtain ⟨hS, hfc, kC, hkC, hkind⟩ := hK.1 ci _ hc
  obtain ⟨cf, kf, fi, f, hi, hsl⟩ := hS k hk
  have hi2 : s.fieldFound? C (T k).2.1 (T k).2.2.1 = some (cf, kf, fi, f) := by rw [← hC k hk]; rw [hC k hk] at hi ⊢; exact hi
  have hst := (u_facts hfc hkC (u_lays hts hin hk) hi).1
  have hlay := hts _ (hin _ (u_in_lay hk))
  have hgo : ∀ H' : Heap, H'[a]? = some (cell.setSlot f.slot v) → H'.size = H.size → (∀ q, q ≠ a → H'[q]? = H[q]?) → W p l e R s m args below meth c H' (locs ++ [⟨a, f.slot⟩]) cells slots Q (F0 m (pc + 3) ls rest) := by
    intro H' e1 e2 e3
    refine kk H' _ (hM.put h1 h2 (by rw [hT]; exact Nat.succ_ne_zero _) ⟨fun ci' r' g1 g2 => ?_, fun y b g1 => ?_⟩ e2 e3)
    · rw [h2, hT] at g1
      have : ci = ci' := by omega
      subst this
      cases hc.symm.trans g2
      rw [h3]
      rw [hsl] at e1
      exact ⟨_, e1, q2, q3, t_set q4 hap hk v⟩
    · rw [h2, hT] at g1
      have hlt : ci < 6 := (List.getElem?_eq_some_iff.mp hc).1
      have : ci = 0 ∨ ci = 1 ∨ ci = 2 ∨ ci = 3 ∨ ci = 4 ∨ ci = 5 := by omega
      rcases this with rfl | rfl | rfl | rfl | rfl | rfl <;> cases g1
  rcases hfin with hfin | ⟨hfin, hin2, hown2⟩
  · unfold u_lay at hlay
    rw [if_neg (by rw [hfin]; decide)] at hlay
    have h6 := u_store hfc hkC hkind hlay hi (hp k hk) hn hfit
    exact W.putK hx hb (f := f) ⟨hown, hts _ hl, ⟨_, _, _, hi2⟩, hst⟩ (by rw [q2]; exact h6) q1 q3 (by rw [hsl]; exact k2_hasslot (q4 k hk)) rfl rfl hdg hgo
  · unfold u_lay at hlay
    rw [if_pos hfin] at hlay
    have hcf : m.cls = cf := by
      obtain ⟨_, _, c', _, _, _, -, -, hf', -, -, -, hown3, -⟩ := Cond.laysFinal_spec hlay
      have e1 : c' = cf := by have := hi.symm.trans hf'; simp at this; exact this.1.symm
      rw [hC k hk, hown2] at hown3
      rw [← e1]; exact Option.some.inj (hown.symm.trans hown3)
    have h6 := u_fits hfc hkC hkind (Or.inr hlay) hi (hp k hk) hn hfit
    exact W.putFinK hx hb hown (hts _ hl) hi2 hst hcf hin2 (by rw [q2]; exact h6) q1 q3 (by rw [hsl]; exact k2_hasslot (q4 k hk)) rfl rfl hdg hgo
theorem gV_setI {t a k : Nat} {v : Int32} (hr : gIsR (gTy t k) = false) : gV t (gsI S a k v) a = updV (gV t S a) k (.int v) := by
  funext j
  by_cases hj : j = k
  · subst hj; simp [gV, updV, hr, gsI, gI, gu2]
  · simp [gV, updV, gsI, gI, gR, gu2, hj]
theorem gV_setR {t a k : Nat} {v : Option Nat} (hr : gIsR (gTy t k) = true) : gV t (gsR S a k v) a = updV (gV t S a) k (va_rf v) := by
  funext j
  by_cases hj : j = k
  · subst hj; simp [gV, updV, hr, gsR, gR, gu2]
  · simp [gV, updV, gsR, gI, gR, gu2, hj]
def gnr (ty : FieldType) (v : Int32) : Bool := match ty with
  | .boolean => decide (v = 0 ∨ v = 1)
  | .char => decide (0 ≤ v.toInt ∧ v.toInt < 65536)
  | _ => true
theorem gnr_of {ty : FieldType} {v : Int32} (h : ty = .int ∨ ty = .boolean ∨ ty = .char) (h2 : gnr ty v = true) : narrow ty (.int v) = .int v ∧ fits ty (.int v) = true := by
  rcases h with rfl | rfl | rfl
  · exact ⟨rfl, rfl⟩
  · have h3 : v = 0 ∨ v = 1 := of_decide_eq_true h2
    rcases h3 with rfl | rfl <;> exact ⟨rfl, rfl⟩
  · have h3 : 0 ≤ v.toInt ∧ v.toInt < 65536 := of_decide_eq_true h2
    obtain ⟨q, hq, rfl⟩ : ∃ q : Nat, q < 65536 ∧ v = nI q := by
      refine ⟨v.toInt.toNat, by omega, ?_⟩
      apply Int32.toInt_inj.mp
      rw [nI_toInt (by omega)]
      omega
    exact pk_charN hq
theorem gnr_nar {ty : FieldType} {v : Int32} (h : ty = .int ∨ ty = .boolean ∨ ty = .char) (h2 : gnr ty v = true) : vp_nar ty v = v := by
  have := (gnr_of h h2).1
  unfold vp_nar
  rw [this]
theorem g_putI (hF : gF p s m args meth c own cc nL rt D Y A) (hM : gM D Y A H0 S hs H locs) {ci N : Nat} {C : String} {T : u_T} {ty : Nat → FieldType} (hd : gFd ci C T N ty) {k index : Nat} {p0 : Option Nat} {v : Int32} (hv : gsfI S p0 (ci + 1) k v = some S') (hk : k < N) (hr : gIsR (ty k) = false) (hfin : (T k).2.2.2 = false ∨ ((T k).2.2.2 = true ∧ meth.name = "<init>" ∧ C = own)) (hn : narrow (ty k) (.int v) = .int v ∧ fits (ty k) (.int v) = true) (hl : Cond.fieldLink own index C (T k).2.1 (T k).2.2.1 ∈ aw) (hdg : decode cc pc = .ok (.putfield index, 3))
    (kk : ∀ (H1 : Heap) (locs1 : List Loc), gM D Y A H0 S' hs H1 locs1 → W p l e R s m args below meth c H1 locs1 cells slots Q (F0 m (pc + 3) ls rest)) : W p l e R s m args below meth c H locs cells slots Q (F0 m pc ls (.int v :: va_rf p0 :: rest)) := by
  obtain ⟨a, rfl, hT, rfl⟩ := gsfI_of hv
  exact g_put0 hF hM hd hk hT hfin (fun b hb => gsI_same hb) rfl (gV_setI (by rw [hd.2.1]; exact hr)) hn.1 hn.2 hl hdg kk
theorem g_putR (hF : gF p s m args meth c own cc nL rt D Y A) (hM : gM D Y A H0 S hs H locs) {ci N : Nat} {C : String} {T : u_T} {ty : Nat → FieldType} (hd : gFd ci C T N ty) {k index : Nat} {p0 v : Option Nat} (hv : gsfR S p0 (ci + 1) k v = some S') (hk : k < N) (hr : gIsR (ty k) = true) (hfin : (T k).2.2.2 = false ∨ ((T k).2.2.2 = true ∧ meth.name = "<init>" ∧ C = own)) (hl : Cond.fieldLink own index C (T k).2.1 (T k).2.2.1 ∈ aw) (hdg : decode cc pc = .ok (.putfield index, 3))
    (kk : ∀ (H1 : Heap) (locs1 : List Loc), gM D Y A H0 S' hs H1 locs1 → W p l e R s m args below meth c H1 locs1 cells slots Q (F0 m (pc + 3) ls rest)) : W p l e R s m args below meth c H locs cells slots Q (F0 m pc ls (va_rf v :: va_rf p0 :: rest)) := by
  obtain ⟨a, rfl, hT, rfl⟩ := gsfR_of hv
  have hnf : narrow (ty k) (va_rf v) = va_rf v ∧ fits (ty k) (va_rf v) = true := by
    cases hty : ty k <;> rw [hty] at hr <;> first | (cases hr; done) | (cases v <;> exact ⟨rfl, rfl⟩)
  exact g_put0 hF hM hd hk hT hfin (fun b hb => gsR_same hb) rfl (gV_setR (by rw [hd.2.1]; exact hr)) hnf.1 hnf.2 hl hdg kk
end GRows
