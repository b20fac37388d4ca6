/-! Numbers of the small machine and the machine's own. -/
theorem z32 {x : Int} (h : inR x) : (Int32.ofInt x).toInt = x := Int32.toInt_ofInt_of_le (by unfold inR at h; omega) (by unfold inR at h; omega)
theorem z64 {x : Int} (h : inL x) : (Int64.ofInt x).toInt = x := Int64.toInt_ofInt_of_le (by unfold inL at h; omega) (by unfold inL at h; omega)
theorem z_in (x : Int32) : inR x.toInt := by
  have h1 := x.le_toInt
  have h2 := x.toInt_lt
  unfold inR; omega
theorem zRL {x : Int} (h : inR x) : inL x := by unfold inR at h; unfold inL; omega
theorem zlt_iff {x y : Int} (hx : inR x) (hy : inR y) : Int32.ofInt x < Int32.ofInt y ↔ x < y := by rw [Int32.lt_iff_toInt_lt, z32 hx, z32 hy]
theorem zle_iff {x y : Int} (hx : inR x) (hy : inR y) : Int32.ofInt x ≤ Int32.ofInt y ↔ x ≤ y := by rw [Int32.le_iff_toInt_le, z32 hx, z32 hy]
theorem zeq_iff {x y : Int} (hx : inR x) (hy : inR y) : Int32.ofInt x = Int32.ofInt y ↔ x = y := by rw [← Int32.toInt_inj, z32 hx, z32 hy]
theorem z_0 : inR 0 := by unfold inR; omega
theorem z_of0 : Int32.ofInt 0 = 0 := rfl
theorem z_clamp {i : Int} (hi : inR i) : (Int32.ofInt i).toNatClampNeg = i.toNat := by
  show (Int32.ofInt i).toInt.toNat = i.toNat
  rw [z32 hi]
theorem z_idx {i : Int} {n : Nat} (hi : inR i) (h0 : 0 ≤ i) (hn : i < Int.ofNat n) : ¬ (Int32.ofInt i < 0 ∨ n ≤ (Int32.ofInt i).toNatClampNeg) := by
  rw [z_clamp hi, ← z_of0, zlt_iff hi z_0]
  have hn : i < (n : Int) := hn
  omega
theorem z_toNat {i : Int} (h0 : 0 ≤ i) : Int.ofNat i.toNat = i := Int.toNat_of_nonneg h0
theorem z_lcmp {x y : Int} (hx : inL x) (hy : inL y) : lg_cmp (Int64.ofInt x) (Int64.ofInt y) = Int32.ofInt (iCmp x y) := by
  unfold lg_cmp iCmp
  have e1 : Int64.ofInt x > Int64.ofInt y ↔ y < x := by
    show Int64.ofInt y < Int64.ofInt x ↔ _
    rw [Int64.lt_iff_toInt_lt, z64 hx, z64 hy]
  have e2 : Int64.ofInt x = Int64.ofInt y ↔ x = y := by rw [← Int64.toInt_inj, z64 hx, z64 hy]
  by_cases h1 : y < x
  · rw [if_pos (e1.mpr h1), if_pos h1]; rfl
  · rw [if_neg (fun q => h1 (e1.mp q)), if_neg h1]
    by_cases h2 : x = y
    · rw [if_pos (e2.mpr h2), if_pos h2]; rfl
    · rw [if_neg (fun q => h2 (e2.mp q)), if_neg h2]; rfl
theorem z_cmpR (x y : Int) : inR (iCmp x y) := by
  unfold iCmp inR
  split
  · omega
  · split <;> omega
theorem z_i2l {x : Int} (hx : inR x) : (Int32.ofInt x).toInt64 = Int64.ofInt x := by
  apply Int64.toInt_inj.mp
  rw [Int32.toInt_toInt64, z32 hx, z64 (zRL hx)]
/-! The small heap in the machine's own. -/
def zra (b base a : Nat) : Nat := if a = 1 then b else base + (a - 2)
def zro (b base a : Nat) : Option Nat := if a = 0 then none else some (zra b base a)
def zrv (b base : Nat) (v : zV) : Value := match v with
  | .inl x => .int (Int32.ofInt x)
  | .inr (.inl q) => va_rf (zro b base q.1)
  | .inr (.inr (.inl x)) => .long (Int64.ofInt x)
  | .inr (.inr (.inr _)) => .null
def zfv (b base : Nat) (h : zH) (a c k : Nat) : Value := match zfty c k with
  | .int => .int (Int32.ofInt (gI h a (Int.ofNat k)))
  | .boolean => .int (Int32.ofInt (gI h a (Int.ofNat k)))
  | _ => va_rf (zro b base (gR h a (Int.ofNat k)))
def zaI : Nat → Option FieldType
  | 40 => some .int
  | 41 => some .boolean
  | 42 => some .byte
  | 43 => some .long
  | _ => none
def zaO : Nat → Option String
  | 44 => some "SyntaxRules$Rule"
  | 45 => some "SyntaxRules$Text"
  | 46 => some "SyntaxRules$Kept"
  | _ => none
def zel (tag : Nat) (x : Int) : Value := bif Nat.beq tag 43 then .long (Int64.ofInt x) else .int (Int32.ofInt x)
def zcR (b base : Nat) (D : va_G) (s : State) (h : zH) (a : Nat) (H : Heap) : Prop :=
  (tg h a < 40 → ∃ r, zcl[tg h a % 20]? = some r ∧ t_OB (zra b base a) (D.1 (tg h a % 20)) r.2.2 (D.2 (tg h a % 20)) H (zfv b base h a (tg h a % 20))) ∧
  (∀ ty, zaI (tg h a) = some ty → ∃ cA, ArrOfT s cA ty ∧ H[zra b base a]? = some (arrV cA (ln h a) (fun j => zel (tg h a) (gI h a (Int.ofNat j))))) ∧
  (∀ C, zaO (tg h a) = some C → ∃ cA, ArrOfT s cA (.object C) ∧ va_RA s cA (.object C) ∧ H[zra b base a]? = some (arrV cA (ln h a) (fun j => va_rf (zro b base (gR h a (Int.ofNat j))))))
def zRel (b base : Nat) (D : va_G) (s : State) (h : zH) (H : Heap) : Prop :=
  2 ≤ nx h ∧ H.size = base + (nx h - 2) ∧ b < base ∧ (∀ a, 2 ≤ a → a < nx h → zcR b base D s h a H) ∧
  va_X b (ln h 1) (fun j => Int32.ofInt (gI h 1 (Int.ofNat j))) s H ∧ (∀ a k, inR (gI h a k)) ∧
  (∀ a, 2 ≤ a → a < nx h → tg h a < 20 → ∀ q ∈ zlay (tg h a), gR h a (Int.ofNat q.1) = a + q.2.1 ∧ zty q.2.2 (a + q.2.1) h) ∧ va_K D zcl [] s
/-- the types that last -/
def zperm (t : Nat) : Prop := t % 100 < 20 ∨ 40 ≤ t % 100
def zok (h : zH) (v : zV) : Prop := match v with
  | .inl x => inR x
  | .inr (.inl q) => q.2 = 0 ∨ (zperm q.2 ∧ zty q.2 q.1 h)
  | .inr (.inr (.inl x)) => inL x
  | .inr (.inr (.inr _)) => True
/-- a heap that has grown -/
def zle (h h1 : zH) : Prop := nx h ≤ nx h1 ∧ sc h ≤ sc h1 ∧ ∀ a, a < nx h → ln h1 a = ln h a ∧ (tg h a < 20 ∨ 40 ≤ tg h a → tg h1 a = tg h a)
theorem zle.rf {h : zH} : zle h h := ⟨Nat.le_refl _, Nat.le_refl _, fun _ _ => ⟨rfl, fun _ => rfl⟩⟩
theorem zle.tr {h h1 h2 : zH} (p : zle h h1) (q : zle h1 h2) : zle h h2 := by
  refine ⟨Nat.le_trans p.1 q.1, Nat.le_trans p.2.1 q.2.1, fun a ha => ?_⟩
  have p3 := p.2.2 a ha
  have q3 := q.2.2 a (Nat.lt_of_lt_of_le ha p.1)
  exact ⟨q3.1.trans p3.1, fun z => by rw [q3.2 (by rw [p3.2 z]; exact z), p3.2 z]⟩
theorem zty_mono {h h1 : zH} (p : zle h h1) {t x : Nat} (ht : zperm t) (k : zty t x h) : zty t x h1 := by
  unfold zty at k ⊢
  cases hb : Nat.beq t 147 with
  | true => rw [hb] at k; exact k
  | false =>
    rw [hb] at k
    obtain ⟨k1, k2, k3, k4⟩ := k
    have p3 := p.2.2 x k2
    refine ⟨k1, Nat.lt_of_lt_of_le k2 p.1, ?_, ?_⟩
    · rw [p3.2 (by rw [k3]; exact ht)]; exact k3
    · rw [p3.1]; exact k4
theorem zok_mono {h h1 : zH} (p : zle h h1) {v : zV} (k : zok h v) : zok h1 v := by
  rcases v with x | q | x | u
  · exact k
  · rcases k with k | ⟨k1, k2⟩
    · exact Or.inl k
    · exact Or.inr ⟨k1, zty_mono p k1 k2⟩
  · exact k
  · trivial
theorem zra_ne {b base a c : Nat} (ha : 2 ≤ a) (hc : 2 ≤ c) (h : a ≠ c) : zra b base a ≠ zra b base c := by
  unfold zra
  rw [if_neg (by omega), if_neg (by omega)]
  omega
theorem zra_ge {b base a : Nat} (ha : 2 ≤ a) : base ≤ zra b base a := by
  unfold zra
  rw [if_neg (by omega)]
  omega
theorem zra_lt {b base a n : Nat} (ha : 2 ≤ a) (hn : a < n) : zra b base a < base + (n - 2) := by
  unfold zra
  rw [if_neg (by omega)]
  omega
theorem zra_nx {b base n : Nat} (hn : 2 ≤ n) : zra b base n = base + (n - 2) := by
  unfold zra
  rw [if_neg (by omega)]
theorem zcR.kept {b base : Nat} {D : va_G} {s : State} {h h1 : zH} {a : Nat} {H H1 : Heap} (k : zcR b base D s h a H) (ht : tg h1 a = tg h a) (hl : ln h1 a = ln h a) (hi : ∀ j, gI h1 a j = gI h a j) (hr : ∀ j, gR h1 a j = gR h a j) (hH : H1[zra b base a]? = H[zra b base a]?) : zcR b base D s h1 a H1 := by
  have e1 : gI h1 a = gI h a := funext hi
  have e2 : gR h1 a = gR h a := funext hr
  unfold zcR at k ⊢
  rw [ht, hl, e1, e2]
  refine ⟨fun q => ?_, fun ty q => ?_, fun C q => ?_⟩
  · obtain ⟨r, r1, r2⟩ := k.1 q
    refine ⟨r, r1, ?_⟩
    have e3 : zfv b base h1 a (tg h a % 20) = zfv b base h a (tg h a % 20) := by
      funext j; unfold zfv; rw [e1, e2]
    rw [e3]
    exact r2.kept hH
  · obtain ⟨cA, r1, r2⟩ := k.2.1 ty q
    exact ⟨cA, r1, by rw [hH]; exact r2⟩
  · obtain ⟨cA, r1, r2, r3⟩ := k.2.2 C q
    exact ⟨cA, r1, r2, by rw [hH]; exact r3⟩
theorem zcR.moved {b base : Nat} {D : va_G} {s t : State} {h : zH} {a : Nat} {H : Heap} (hvm : s.vm.Alike t.vm) (k : zcR b base D s h a H) : zcR b base D t h a H := by
  refine ⟨k.1, fun ty q => ?_, fun C q => ?_⟩
  · obtain ⟨cA, r1, r2⟩ := k.2.1 ty q
    exact ⟨cA, arrOfT_moved hvm r1, r2⟩
  · obtain ⟨cA, r1, r2, r3⟩ := k.2.2 C q
    exact ⟨cA, arrOfT_moved hvm r1, r2.moved hvm, r3⟩
theorem zRel.moved {b base : Nat} {D : va_G} {s t : State} {h : zH} {H : Heap} (hvm : s.vm.Alike t.vm) (k : zRel b base D s h H) : zRel b base D t h H := by
  obtain ⟨k1, k2, k3, k4, k5, k6, k7, k8⟩ := k
  exact ⟨k1, k2, k3, fun a h1 h2 => (k4 a h1 h2).moved hvm, k5.moved hvm, k6, k7, k8.moved hvm⟩
/-- one cell changes: the rest of the relation stays -/
theorem zRel.set {b base : Nat} {D : va_G} {s : State} {h h1 : zH} {H H1 : Heap} {a : Nat} (k : zRel b base D s h H) (ha : 2 ≤ a) (ha2 : a < nx h) (hn : nx h1 = nx h) (hsz : H1.size = H.size) (hoth : ∀ q, q ≠ zra b base a → H1[q]? = H[q]?)
    (hl : ∀ c, ln h1 c = ln h c) (ht : ∀ c, c ≠ a → tg h1 c = tg h c) (ht2 : tg h a < 20 ∨ 40 ≤ tg h a → tg h1 a = tg h a) (hi : ∀ c j, c ≠ a → gI h1 c j = gI h c j) (hr : ∀ c j, c ≠ a → gR h1 c j = gR h c j) (hir : ∀ j, inR (gI h1 a j)) (hcell : zcR b base D s h1 a H1)
    (hlay : tg h1 a < 20 → ∀ q ∈ zlay (tg h1 a), gR h1 a (Int.ofNat q.1) = a + q.2.1 ∧ zty q.2.2 (a + q.2.1) h1) (hp : ∀ c q, q ∈ zlay c → zperm q.2.2) : zRel b base D s h1 H1 ∧ (sc h ≤ sc h1 → zle h h1) := by
  obtain ⟨k1, k2, k3, k4, k5, k6, k7, k8⟩ := k
  have hle : sc h ≤ sc h1 → zle h h1 := fun hs => ⟨by omega, hs, fun c hc => ⟨hl c, fun z => by
    by_cases e : c = a
    · subst e; exact ht2 z
    · exact ht c e⟩⟩
  have hty : ∀ t x, zperm t → zty t x h → zty t x h1 := by
    intro t x hpt z
    unfold zty at z ⊢
    cases hb : Nat.beq t 147 with
    | true => rw [hb] at z; exact z
    | false =>
      rw [hb] at z
      obtain ⟨z1, z2, z3, z4⟩ := z
      refine ⟨z1, by omega, ?_, by rw [hl x]; exact z4⟩
      by_cases e : x = a
      · subst e; rw [ht2 (by rw [z3]; exact hpt)]; exact z3
      · rw [ht x e]; exact z3
  refine ⟨⟨by omega, by rw [hsz, k2, hn], k3, fun c h2 h3 => ?_, ?_, fun c j => ?_, fun c h2 h3 h4 => ?_, k8⟩, hle⟩
  · by_cases e : c = a
    · subst e; exact hcell
    · exact (k4 c h2 (by omega)).kept (ht c e) (hl c) (fun j => hi c j e) (fun j => hr c j e) (hoth _ (zra_ne h2 ha e))
  · have e1 : ∀ j, gI h1 1 j = gI h 1 j := fun j => hi 1 j (by omega)
    rw [hl 1]
    have e2 : (fun j : Nat => Int32.ofInt (gI h1 1 (Int.ofNat j))) = (fun j : Nat => Int32.ofInt (gI h 1 (Int.ofNat j))) := funext fun j => by rw [e1]
    rw [e2]
    exact k5.kept (hoth b (fun q => by have := zra_ge (b := b) (base := base) ha; omega))
  · by_cases e : c = a
    · subst e; exact hir j
    · rw [hi c j e]; exact k6 c j
  · by_cases e : c = a
    · subst e; exact hlay h4
    · intro q hq
      rw [ht c e] at h4 hq
      rw [hr c _ e]
      obtain ⟨z1, z2⟩ := k7 c h2 (by omega) h4 q hq
      exact ⟨z1, hty _ _ (hp _ q hq) z2⟩
theorem zlay_perm : ∀ c q, q ∈ zlay c → zperm q.2.2 := by
  intro c
  unfold zperm
  match c with
  | 0 => decide +kernel
  | 1 => decide +kernel
  | 2 => decide +kernel
  | 3 => decide +kernel
  | 4 => decide +kernel
  | 5 => decide +kernel
  | 6 => decide +kernel
  | 7 => decide +kernel
  | 8 => decide +kernel
  | 9 => decide +kernel
  | 10 => decide +kernel
  | 11 => decide +kernel
  | c + 12 => exact fun q h => absurd h List.not_mem_nil
