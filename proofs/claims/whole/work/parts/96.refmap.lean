/-! the reference's maps -/
theorem gsI_self {S : GS} {a k : Nat} {v : Int32} (h : gI S a k = v) : gsI S a k v = S := by
  subst h
  unfold gsI
  refine Prod.ext (funext fun b => funext fun j => ?_) rfl
  show gu2 S.1 a k (gI S a k) b j = S.1 b j
  unfold gu2 gI
  by_cases e : b = a
  · by_cases e2 : j = k
    · rw [if_pos e, if_pos e2, e, e2]
    · rw [if_pos e, if_neg e2]
  · rw [if_neg e]
section RMap
variable {S S' : GS} {r cap hs hs' : Nat} {dq : Nat → Nat} {A B : AS}
theorem mapk {A : AS} {s : Nat} (h : (kMp (kA A s) || kA A s == 107) = true ∨ kA A s = 118) : sK (slA A s) = 109 ∨ sK (slA A s) = 70 ∨ sK (slA A s) = 107 ∨ sK (slA A s) = 118 := h.elim kMp_or (fun z => Or.inr (Or.inr (Or.inr z)))
theorem WF_AM {s j : Nat} {V : List Tr} (hw : WF A) (hs12 : s < 12) (hm : sK (slA A s) = 109 ∨ sK (slA A s) = 70 ∨ sK (slA A s) = 107 ∨ sK (slA A s) = 118) (hj : sR (slA A s) = 2 + j) (hV : ∀ t ∈ V, inB t) (hl : V.length ≤ 24) (hnd : (V.map fun t => t.1).Nodup) (hso : sR (slA A s) = 3 → (V.map fun t => t.1.toInt).Pairwise (· < ·)) : WF (aSetR A (2 + j) V) := by
  obtain ⟨e1, e2, e3, e4⟩ := chgM_ext (V := V) hw hs12 hm
  exact (WF_chgM hw hs12 hm hV hl hnd hso).ext (fun i hi => by rw [e1 i, rw_set, hj]) (fun s' hs' => (e2 s' hs').symm) e3.symm (fun p hp => (e4 p (by rw [e3] at hp; exact hp)).symm)
theorem vw_AM {s j : Nat} {V : List Tr} (hw : WF (aSetR A (2 + j) V)) (hs12 : s < 12) (hm : sK (slA A s) = 109 ∨ sK (slA A s) = 70 ∨ sK (slA A s) = 107 ∨ sK (slA A s) = 118) (hj : sR (slA A s) = 2 + j) : vw (aSetR A (2 + j) V) s = V := by
  obtain ⟨-, -, -, -, -, l6⟩ := map_facts (A := aSetR A (2 + j) V) hw hs12 hm
  rw [l6]
  have : sR (slA (aSetR A (2 + j) V) s) = 2 + j := hj
  rw [this, rw_set, if_pos rfl]
theorem Rq.chgM {s j : Nat} {V : List Tr} (h : Rq r dq cap S hs (aSetR A (2 + j) V)) (hw : WF A) (hs12 : s < 12) (hm : sK (slA A s) = 109 ∨ sK (slA A s) = 70 ∨ sK (slA A s) = 107 ∨ sK (slA A s) = 118) (hj : sR (slA A s) = 2 + j) : Rq r dq cap S hs (chgA A s V) := by
  obtain ⟨e1, e2, e3, e4⟩ := chgM_ext (V := V) hw hs12 hm
  exact h.ext (fun i _ => by rw [e1 i, rw_set, hj]) e2 e3 e4
theorem Rq.mset {j : Nat} {L M : List Tr} (h : Rq r dq cap S hs (aSetR (aSetR A j L) j M)) : Rq r dq cap S hs (aSetR A j M) := h.ext (fun i _ => by
  rw [rw_set, rw_set, rw_set]
  by_cases e : i = j
  · rw [if_pos e, if_pos e]
  · rw [if_neg e, if_neg e, if_neg e]) (fun _ _ => rfl) rfl (fun _ _ => rfl)
theorem Rq.mself {j : Nat} (h : Rq r dq cap S hs A) : Rq r dq cap S hs (aSetR A j (rwA A j)) := h.ext (fun i _ => by
  rw [rw_set]
  by_cases e : i = j
  · rw [if_pos e, e]
  · rw [if_neg e]) (fun _ _ => rfl) rfl (fun _ _ => rfl)
/-- three rows and what is written there -/
def wR3 (r j : Nat) (a _ : Nat) : Prop := a = r + (9 + j) ∨ a = r + (12 + j) ∨ a = r + (15 + j)
def rW3 (r j : Nat) (S T : GS) : Prop := (∀ b, gT T b = gT S b) ∧ (∀ b, gZ T b = gZ S b) ∧ (∀ b k, gR T b k = gR S b k) ∧ ∀ b k, ¬ wR3 r j b k → gI T b k = gI S b k
theorem rW3.rf {j : Nat} : rW3 r j S S := ⟨fun _ => rfl, fun _ => rfl, fun _ _ => rfl, fun _ _ _ => rfl⟩
def wr3 (T : GS) (r j p : Nat) (x : Tr) : GS := gsI (gsI (gsI T (r + (9 + j)) p x.1) (r + (12 + j)) p x.2.1) (r + (15 + j)) p x.2.2
theorem rW3.wr {T : GS} {j p : Nat} {x : Tr} (h : rW3 r j S T) : rW3 r j S (wr3 T r j p x) := by
  obtain ⟨h1, h2, h3, h4⟩ := h
  refine ⟨h1, h2, h3, fun b q hq => ?_⟩
  unfold wR3 at hq
  unfold wr3
  rw [gI_gsI, if_neg (by omega), gI_gsI, if_neg (by omega), gI_gsI, if_neg (by omega)]
  exact h4 b q hq
def tr3 (S : GS) (r j k : Nat) : Tr := (gI S (r + (9 + j)) k, gI S (r + (12 + j)) k, gI S (r + (15 + j)) k)
theorem wr3_at {T : GS} {j p k : Nat} {x : Tr} (hj : j < 2) : tr3 (wr3 T r j p x) r j k = if k = p then x else tr3 T r j k := by
  unfold tr3 wr3
  simp only [gI_gsI]
  by_cases e : k = p
  · subst e
    rw [if_neg (by omega), if_neg (by omega), if_pos (by simp), if_neg (by omega), if_pos (by simp), if_pos (by simp), if_pos rfl]
  · rw [if_neg (by omega), if_neg (by omega), if_neg (by omega), if_neg (by omega), if_neg (by omega), if_neg (by omega), if_neg (by omega), if_neg (by omega), if_neg (by omega), if_neg e]
theorem rMap_tr {j : Nat} {L : List Tr} : rMap S r j L ↔ gI S (r + 17) j = nI L.length ∧ ∀ i, i < L.length → tr3 S r j i = L.getD i tz := by
  unfold rMap tr3
  refine ⟨fun h => ⟨h.1, fun i hi => ?_⟩, fun h => ⟨h.1, fun i hi => ?_⟩⟩
  · obtain ⟨a, b, c⟩ := h.2 i hi
    rw [a, b, c]
  · rw [← h.2 i hi]
    exact ⟨rfl, rfl, rfl⟩
/-- a thing of a map is written by way of the three rows -/
theorem r_w3 {j p : Nat} {x : Tr} {T : GS} (h : rHd T r dq cap) (hj : j < 2) (hp : p < 24) : gsaI T (some (r + (9 + j))) 11 (nI p) x.1 = some (gsI T (r + (9 + j)) p x.1) ∧ gsaI (gsI T (r + (9 + j)) p x.1) (some (r + (12 + j))) 11 (nI p) x.2.1 = some (gsI (gsI T (r + (9 + j)) p x.1) (r + (12 + j)) p x.2.1) ∧
    gsaI (gsI (gsI T (r + (9 + j)) p x.1) (r + (12 + j)) p x.2.1) (some (r + (15 + j))) 11 (nI p) x.2.2 = some (wr3 T r j p x) := ⟨h.wb.2.2.1 j p _ hj hp, (h.gs (r + (9 + j)) p x.1).wb.2.2.2.1 j p _ hj hp, ((h.gs (r + (9 + j)) p x.1).gs (r + (12 + j)) p x.2.1).wb.2.2.2.2 j p _ hj hp⟩
/-- one thing of a map is struck -/
theorem r_strikes {j p : Nat} (h : Rq r dq cap S hs A) (hj : j < 2) (hp : p < (rwA A (2 + j)).length) (h24 : (rwA A (2 + j)).length ≤ 24) :
    ∃ S', f_X5_strikes S r (nI j) (nI p) = some S' ∧ Rq r dq cap S' hs (aSetR A (2 + j) ((rwA A (2 + j)).eraseIdx p)) ∧ (∀ k, gI S' r k = gI S r k) ∧ (∀ a, gT S' a = gT S a ∧ gZ S' a = gZ S a) ∧ ∀ a k, r + 30 < a → gI S' a k = gI S a k := by
  have hm := h.2.2.2.1 j hj
  rw [rMap_tr] at hm
  generalize hL : rwA A (2 + j) = L at *
  have e17 : nI L.length - 1 = nI (L.length - 1) := by rw [n_1, pk_sub (by omega)]
  have hd0 := h.1.gs (r + 17) j (nI (L.length - 1))
  obtain ⟨T, ⟨t1, t2⟩, n, t3⟩ := lpG (F := fun n T i => f_X5_strikes_L12 r n T (nI j) i) (fun i T => (rW3 r j (gsI S (r + 17) j (nI (L.length - 1))) T ∧ p ≤ i) ∧ ∀ k, k < L.length → tr3 T r j k = if p ≤ k ∧ k < i then L.getD (k + 1) tz else L.getD k tz) (L.length - 1) (fun n T i hi hI => by
    obtain ⟨⟨i1, i0⟩, i2⟩ := hI
    have hd := hd0.sk i1.1 i1.2.1 i1.2.2.1
    have e1 : gI T (r + 17) j = nI (L.length - 1) := by rw [i1.2.2.2 _ _ (by unfold wR3; omega), gI_gsI, if_pos ⟨rfl, rfl⟩]
    have q : (L.length - 1 ≤ i) = False := eq_false (by omega)
    have e2 := i2 (i + 1) (by omega)
    rw [if_neg (by omega)] at e2
    generalize hx : L.getD (i + 1) tz = x at *
    have x1 : gI T (r + (9 + j)) (i + 1) = x.1 := by rw [← e2]; rfl
    have x2 : gI (gsI T (r + (9 + j)) i x.1) (r + (12 + j)) (i + 1) = x.2.1 := by rw [gI_gsI, if_neg (by omega), ← e2]; rfl
    have x3 : gI (gsI (gsI T (r + (9 + j)) i x.1) (r + (12 + j)) i x.2.1) (r + (15 + j)) (i + 1) = x.2.2 := by rw [gI_gsI, if_neg (by omega), gI_gsI, if_neg (by omega), ← e2]; rfl
    obtain ⟨w1, w2, w3⟩ := r_w3 (x := x) hd hj (show i < 24 by omega)
    have d1 := hd.gs (r + (9 + j)) i x.1
    have d2 := d1.gs (r + (12 + j)) i x.2.1
    refine ⟨wr3 T r j i x, ⟨⟨i1.wr, by omega⟩, fun k hk => ?_⟩, ?_⟩
    · rw [wr3_at hj, i2 k hk]
      by_cases e : k = i
      · subst e; rw [if_pos rfl, if_pos (by omega), hx]
      · rw [if_neg e]
        by_cases e3 : p ≤ k ∧ k < i
        · rw [if_pos e3, if_pos (by omega)]
        · rw [if_neg e3, if_neg (by omega)]
    · simp (disch := omega) only [f_X5_strikes_L12, hd.fs, hd.rs.2.2.2.2.2.2.2.1 j hj, e1, Option.bind_some, nI_leI, q, if_false, hd.ro.2.2.1 j hj, nI_1, hd.rb.2.2.1 j (i + 1) hj (by omega), x1, w1, d1.fs, d1.ro.2.2.2.1 j hj, d1.rb.2.2.2.1 j (i + 1) hj (by omega), x2, w2, d2.fs, d2.ro.2.2.2.2 j hj, d2.rb.2.2.2.2 j (i + 1) hj (by omega), x3, w3]) (L.length - 1 - p) p gN (gsI S (r + 17) j (nI (L.length - 1))) (by omega) (by simp only [gN]; omega) ⟨⟨rW3.rf, Nat.le_refl _⟩, fun k hk => by
      rw [if_neg (by omega)]
      have := hm.2 k hk
      rw [← this]
      unfold tr3
      rw [gI_gsI, if_neg (by omega), gI_gsI, if_neg (by omega), gI_gsI, if_neg (by omega)]⟩
  have hd := hd0.sk t1.1.1 t1.1.2.1 t1.1.2.2.1
  have e1 : gI T (r + 17) j = nI (L.length - 1) := by rw [t1.1.2.2.2 _ _ (by unfold wR3; omega), gI_gsI, if_pos ⟨rfl, rfl⟩]
  have hel : (L.eraseIdx p).length = L.length - 1 := len_era hp
  refine ⟨T, ?_, ?_, fun k => ?_, fun a => ⟨t1.1.1 a, t1.1.2.1 a⟩, fun a k ha => ?_⟩
  · simp only [f_X5_strikes, h.1.fs, Option.bind_some, h.1.rs.2.2.2.2.2.2.2.1 j hj, hm.1, e17, h.1.ws.2.2.2.2.2.2.2.1 j _ hj]
    rw [t3]
    simp only [f_X5_strikes_L12, hd.fs, hd.rs.2.2.2.2.2.2.2.1 j hj, e1, Option.bind_some, Int32.le_refl, if_true]
  · refine h.map hj (fun a ha => ⟨t1.1.1 a, t1.1.2.1 a, t1.1.2.2.1 a, fun k q => ?_⟩) (rMap_tr.mpr ⟨by rw [e1, hel], fun k hk => ?_⟩) (Nat.le_refl _) (fun a ha => by rw [t1.1.1]; exact h.2.2.2.2.2.2.1 a ha)
    · rw [t1.1.2.2.2 _ _ (fun z => q (by unfold wR3 at z; unfold wMp; omega)), gI_gsI, if_neg (fun z => q (by unfold wMp; exact Or.inr (Or.inr (Or.inr (Or.inr z)))))]
    · rw [hel] at hk
      rw [t2 k (by omega), gd_era]
      by_cases e : k < p
      · rw [if_neg (by omega), if_pos e]
      · rw [if_pos (by omega), if_neg e]
  · rw [t1.1.2.2.2 _ _ (by unfold wR3; omega), gI_gsI, if_neg (by omega)]
  · rw [t1.1.2.2.2 _ _ (by unfold wR3; omega), gI_gsI, if_neg (by omega)]
end RMap
