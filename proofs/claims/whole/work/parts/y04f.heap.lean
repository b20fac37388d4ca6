/-! Fields and arrays. -/
section ZF
variable {p : Program} {l : Launch} {e : Env} {R : Room} {s : State} {m : MethodId} {args : Array Value} {below : List Frame} {meth : Method} {c : Code} {H : Heap} {locs : List Loc} {cells slots : Nat} {Q : State → Prop}
variable {b base : Nat} {D : va_G} {y pc : Nat} {ls st st1 ls1 r : List zV} {h h1 : zH} {lsr lsr1 : Array Slot} {v v1 v2 v3 v4 : zV}
theorem zFL_b {o : Nat} {q : Nat × Nat × Nat} (hq : q ∈ zFL o) : q.2.1 < 12 ∧ q.2.2 < (zcr q.2.1).2.2 := by
  have ho : o < 14 := by
    rcases Nat.lt_or_ge o 14 with z | z
    · exact z
    · obtain ⟨k, rfl⟩ : ∃ k, o = k + 14 := ⟨o - 14, by omega⟩
      exact absurd hq List.not_mem_nil
  have h1 := List.all_eq_true.mp (List.all_eq_true.mp zFb_ok o (List.mem_range.mpr ho)) q hq
  simp only [zFb, Bool.and_eq_true, Nat.blt_eq] at h1
  exact h1
theorem zcr_at {k : Nat} (hk : k < 12) : zcl[k]? = some (zcr k) := by
  match k, hk with
  | 0, _ => rfl
  | 1, _ => rfl
  | 2, _ => rfl
  | 3, _ => rfl
  | 4, _ => rfl
  | 5, _ => rfl
  | 6, _ => rfl
  | 7, _ => rfl
  | 8, _ => rfl
  | 9, _ => rfl
  | 10, _ => rfl
  | 11, _ => rfl
  | k + 12, hk => exact absurd hk (by omega)
/-- an object of class ci: sealed, or under construction -/
def zobj (ci a : Nat) (h : zH) : Prop := 2 ≤ a ∧ a < nx h ∧ (tg h a = ci ∨ tg h a = 20 + ci)
theorem zty_obj {ci a : Nat} {h : zH} (hc : ci < 12) (k : zty (100 + ci) a h) : 2 ≤ a ∧ a < nx h ∧ tg h a = ci := by
  unfold zty at k
  have hb : Nat.beq (100 + ci) 147 = false := by
    cases hq : Nat.beq (100 + ci) 147 with
    | false => rfl
    | true => have := Nat.eq_of_beq_eq_true hq; omega
  rw [hb] at k
  exact ⟨k.1, k.2.1, by rw [k.2.2.1]; omega⟩
theorem zty_raw {ci a : Nat} {h : zH} (hc : ci < 12) (k : zty (120 + ci) a h) : 2 ≤ a ∧ a < nx h ∧ tg h a = 20 + ci := by
  unfold zty at k
  have hb : Nat.beq (120 + ci) 147 = false := by
    cases hq : Nat.beq (120 + ci) 147 with
    | false => rfl
    | true => have := Nat.eq_of_beq_eq_true hq; omega
  rw [hb] at k
  exact ⟨k.1, k.2.1, by rw [k.2.2.1]; omega⟩
theorem zobj.ob {ci a : Nat} {h : zH} (hc : ci < 12) (k : zobj ci a h) (hR : zRel b base D s h H) : t_OB (zra b base a) (D.1 ci) (zcr ci).2.2 (D.2 ci) H (zfv b base h a ci) := by
  obtain ⟨k1, k2, k3⟩ := k
  have e1 : tg h a % 20 = ci := by rcases k3 with k3 | k3 <;> omega
  have e2 : tg h a < 40 := by rcases k3 with k3 | k3 <;> omega
  obtain ⟨r, r1, r2⟩ := (hR.2.2.2.1 a k1 k2).1 e2
  rw [e1] at r1 r2
  have := r1.symm.trans (zcr_at hc)
  cases this
  exact r2
theorem zlink {o : Nat} {q : Nat × Nat × Nat} (C : zctx y p R s m args meth c) (hq : q ∈ zFL (zow y)) : (Cond.fieldLink (zOwS (zow y)) q.1 ((zcr q.2.1).2.1 q.2.2).1 ((zcr q.2.1).2.1 q.2.2).2.1 ((zcr q.2.1).2.1 q.2.2).2.2.1).before args s = true := C.2.2.2.2.2.1 _ (zFL_w _ _ hq)
theorem zgetW (C : zctx y p R s m args meth c) (hR : zRel b base D s h H) {i ci k a : Nat} (hq : (i, ci, k) ∈ zFL (zow y)) (ho : zobj ci a h) {rest : List Value} (hd : decode (zB y) pc = .ok (.getfield i, 3))
    (kk : W p l e R s m args below meth c H locs cells slots Q (F0 m (pc + 3) lsr (zfv b base h a ci k :: rest))) : W p l e R s m args below meth c H locs cells slots Q (F0 m pc lsr (.ref (zra b base a) :: rest)) := by
  obtain ⟨hc, hk⟩ := zFL_b hq
  obtain ⟨z1, z2, z3, z4, z5, z6⟩ := zcl_ok ci _ (zcr_at hc)
  obtain ⟨cell, q1, q2, q3, q4⟩ := ho.ob hc hR
  have hK := hR.2.2.2.2.2.2.2
  obtain ⟨hS, hfc, kC, hkC, hkind⟩ := hK.1 ci _ (zcr_at hc)
  obtain ⟨cf, kf, fi, f, hi, hsl⟩ := hS k hk
  have hst := (u_facts hfc hkC (u_lays C.2.2.2.2.2.1 z1 hk) hi).1
  refine W.getf C.1 C.2.1 C.2.2.2.2.1 (zlink (o := 0) C hq) hi hst q1 (by rw [q3]; exact fun z => by cases z) (v := zfv b base h a ci k) ?_ rfl rfl hd kk
  rw [hsl]
  exact q4 k hk
theorem zfv_i {ci k a : Nat} (ht : zfty ci k = .int ∨ zfty ci k = .boolean) : zfv b base h a ci k = .int (Int32.ofInt (gI h a (Int.ofNat k))) := by
  unfold zfv
  rcases ht with ht | ht <;> rw [ht]
theorem zfv_r {ci k a : Nat} (ht : zrefb (zfty ci k) = true) : zfv b base h a ci k = va_rf (zro b base (gR h a (Int.ofNat k))) := by
  unfold zfv
  revert ht
  cases zfty ci k <;> intro ht <;> first | rfl | cases ht
theorem zfv_sI {ci k a : Nat} {x : Int} (ht : zfty ci k = .int ∨ zfty ci k = .boolean) (j : Nat) : zfv b base (sI h a (Int.ofNat k) x) a ci j = updV (zfv b base h a ci) k (.int (Int32.ofInt x)) j := by
  unfold updV
  by_cases hj : j = k
  · subst hj
    rw [if_pos rfl, zfv_i ht]
    simp [gI, sI]
  · rw [if_neg hj]
    unfold zfv
    have e1 : gI (sI h a (Int.ofNat k) x) a (Int.ofNat j) = gI h a (Int.ofNat j) := by
      unfold gI sI
      simp only
      rw [if_neg]
      rintro ⟨-, q⟩
      exact hj (Int.ofNat.inj q)
    have e2 : gR (sI h a (Int.ofNat k) x) a (Int.ofNat j) = gR h a (Int.ofNat j) := rfl
    rw [e1, e2]
theorem zfv_sR {ci k a x : Nat} (ht : zrefb (zfty ci k) = true) (j : Nat) : zfv b base (sR h a (Int.ofNat k) x) a ci j = updV (zfv b base h a ci) k (va_rf (zro b base x)) j := by
  unfold updV
  by_cases hj : j = k
  · subst hj
    rw [if_pos rfl, zfv_r ht]
    simp [gR, sR]
  · rw [if_neg hj]
    unfold zfv
    have e1 : gR (sR h a (Int.ofNat k) x) a (Int.ofNat j) = gR h a (Int.ofNat j) := by
      unfold gR sR
      simp only
      rw [if_neg]
      rintro ⟨-, q⟩
      exact hj (Int.ofNat.inj q)
    have e2 : gI (sR h a (Int.ofNat k) x) a (Int.ofNat j) = gI h a (Int.ofNat j) := rfl
    rw [e1, e2]
/-- a field is written: the machine's side -/
theorem zputW (C : zctx y p R s m args meth c) (hR : zRel b base D s h H) {i ci k a : Nat} (hq : (i, ci, k) ∈ zFL (zow y)) (ho : zobj ci a h) {rest : List Value} {w : Value} (hn : narrow (zfty ci k) w = w) (hfit : fits (zfty ci k) w = true)
    (hfin : ((zcr ci).2.1 k).2.2.2 = true → zow y = ci ∧ (zNm y).name = "<init>") (hd : decode (zB y) pc = .ok (.putfield i, 3))
    (kk : ∀ (H1 : Heap) (locs1 : List Loc), H1.size = H.size → (∀ q, q ≠ zra b base a → H1[q]? = H[q]?) → t_OB (zra b base a) (D.1 ci) (zcr ci).2.2 (D.2 ci) H1 (updV (zfv b base h a ci) k w) → ((∀ q ∈ locs, base ≤ q.base) → ∀ q ∈ locs1, base ≤ q.base) → W p l e R s m args below meth c H1 locs1 cells slots Q (F0 m (pc + 3) lsr rest)) : W p l e R s m args below meth c H locs cells slots Q (F0 m pc lsr (w :: .ref (zra b base a) :: rest)) := by
  obtain ⟨hc, hk⟩ := zFL_b hq
  have hc : ci < 12 := hc
  have hk : k < (zcr ci).2.2 := hk
  obtain ⟨z1, z2, z3, z4, z5, z6⟩ := zcl_ok ci _ (zcr_at hc)
  have hK := hR.2.2.2.2.2.2.2
  obtain ⟨cell, q1, q2, q3, q4⟩ := ho.ob hc hR
  have hts := C.2.2.2.2.2.1
  have hap := va_apart (own := zOwS (zow y)) hts z1 (zfty ci) z2 z3 hK (zcr_at hc)
  obtain ⟨hS, hfc, kC, hkC, hkind⟩ := hK.1 ci _ (zcr_at hc)
  obtain ⟨cf, kf, fi, f, hi, hsl⟩ := hS k hk
  have hst := (u_facts hfc hkC (u_lays hts z1 hk) hi).1
  have hge : base ≤ zra b base a := zra_ge ho.1
  have hlay := hts _ (z1 _ (u_in_lay hk))
  unfold u_lay at hlay
  have fin : ∀ (H1 : Heap), H1[zra b base a]? = some (cell.setSlot f.slot w) → H1.size = H.size → (∀ q, q ≠ zra b base a → H1[q]? = H[q]?) → W p l e R s m args below meth c H1 (locs ++ [⟨zra b base a, f.slot⟩]) cells slots Q (F0 m (pc + 3) lsr rest) := by
    intro H1 e1 e2 e3
    rw [hsl] at e1
    refine kk H1 _ e2 e3 ⟨_, e1, q2, q3, t_set q4 hap hk w⟩ (fun z q hq => ?_)
    rcases List.mem_append.mp hq with hq | hq
    · exact z q hq
    · rw [List.mem_singleton.mp hq]; exact hge
  cases hF : ((zcr ci).2.1 k).2.2.2 with
  | false =>
    rw [if_neg (by rw [hF]; decide)] at hlay
    have h6 := u_store hfc hkC hkind hlay hi (z2 k hk) hn hfit
    exact W.putK C.1 C.2.1 (f := f) ⟨C.2.2.2.2.1, zlink (o := 0) C hq, ⟨_, _, _, hi⟩, hst⟩ (by rw [q2]; exact h6) q1 q3 (by rw [hsl]; exact k2_hasslot (q4 k hk)) rfl rfl hd fin
  | true =>
    rw [if_pos hF] at hlay
    obtain ⟨o1, o2⟩ := hfin hF
    have hcf : m.cls = cf := by
      obtain ⟨_, _, c', _, _, _, -, -, hf', -, -, -, hown2, -⟩ := Cond.laysFinal_spec hlay
      have e1 : c' = cf := by have := hi.symm.trans hf'; simp at this; exact this.1.symm
      rw [z4 k hk] at hown2
      rw [← e1]
      have hown := C.2.2.2.2.1
      rw [o1] at hown
      have e4 : zOwS ci = (zcr ci).1 := by
        match ci, hc with
        | 0, _ => rfl
        | 1, _ => rfl
        | 2, _ => rfl
        | 3, _ => rfl
        | 4, _ => rfl
        | 5, _ => rfl
        | 6, _ => rfl
        | 7, _ => rfl
        | 8, _ => rfl
        | 9, _ => rfl
        | 10, _ => rfl
        | 11, _ => rfl
        | k + 12, hk => exact absurd hk (by omega)
      rw [e4] at hown
      exact Option.some.inj (hown.symm.trans hown2)
    have h6 := u_fits hfc hkC hkind (Or.inr hlay) hi (z2 k hk) hn hfit
    exact W.putFinK C.1 C.2.1 C.2.2.2.2.1 (zlink (o := 0) C hq) hi hst hcf (C.2.2.2.2.2.2.2.2.1 o2) (by rw [q2]; exact h6) q1 q3 (by rw [hsl]; exact k2_hasslot (q4 k hk)) rfl rfl hd fin
/-- ints and references fit -/
theorem znar_i (x : Int32) : narrow .int (.int x) = .int x ∧ fits .int (.int x) = true := ⟨vp_nar_int x, rfl⟩
theorem znar_z {x : Int} (hx : x = 0 ∨ x = 1) : narrow .boolean (.int (Int32.ofInt x)) = .int (Int32.ofInt x) ∧ fits .boolean (.int (Int32.ofInt x)) = true := by
  rcases hx with rfl | rfl <;> exact ⟨by decide, by decide⟩
theorem znar_r {t : FieldType} (ht : zrefb t = true) (r : Option Nat) : narrow t (va_rf r) = va_rf r ∧ fits t (va_rf r) = true := by
  cases t <;> first | (cases ht; done) | (cases r <;> exact ⟨rfl, rfl⟩)
/-- an int-like array's cell -/
theorem zarrI {ty : FieldType} {a : Nat} (hR : zRel b base D s h H) (ha : 2 ≤ a) (ha2 : a < nx h) (ht : zaI (tg h a) = some ty) : ∃ cA, ArrOfT s cA ty ∧ H[zra b base a]? = some (arrV cA (ln h a) (fun j => zel (tg h a) (gI h a (Int.ofNat j)))) := (hR.2.2.2.1 a ha ha2).2.1 ty ht
theorem zarrO {C1 : String} {a : Nat} (hR : zRel b base D s h H) (ha : 2 ≤ a) (ha2 : a < nx h) (ht : zaO (tg h a) = some C1) : ∃ cA, ArrOfT s cA (.object C1) ∧ va_RA s cA (.object C1) ∧ H[zra b base a]? = some (arrV cA (ln h a) (fun j => va_rf (zro b base (gR h a (Int.ofNat j))))) := (hR.2.2.2.1 a ha ha2).2.2 C1 ht
/-- a type's array: where it lies, its tag, its length -/
theorem zty_arr {t a tag : Nat} (htag : t % 100 = tag) (h40 : 40 ≤ tag) (h47 : tag < 47) (k : zty t a h) : 2 ≤ a ∧ a < nx h ∧ tg h a = tag ∧ (zlen t a h = Int.ofNat (ln h a) ∨ 100 > t) := by
  unfold zty at k
  have hb : Nat.beq t 147 = false := by
    cases hq : Nat.beq t 147 with
    | false => rfl
    | true => have := Nat.eq_of_beq_eq_true hq; omega
  rw [hb] at k
  obtain ⟨k1, k2, k3, k4⟩ := k
  refine ⟨k1, k2, by rw [k3, htag], ?_⟩
  unfold zlen
  have ed : Nat.div t 100 = t / 100 := rfl
  rw [ed]
  cases hq : Nat.blt 1 (t / 100) with
  | true =>
    have hq : 1 < t / 100 := by simpa using hq
    rcases k4 with k4 | k4
    · omega
    · exact Or.inl (by rw [k4]; rfl)
  | false => exact Or.inl rfl
/-- what stands on the operand stack is an array of a tag -/
theorem zarr_ok {tag a t : Nat} (h40 : 40 ≤ tag) (h47 : tag < 47) (hv : zok h (.inr (.inl (a, t)))) (hg : zg (zarrG tag a t h) True) : 2 ≤ a ∧ a < nx h ∧ tg h a = tag ∧ zlen (zarrT tag t) a h = Int.ofNat (ln h a) := by
  have hb : Nat.beq tag 47 = false := by
    cases hq : Nat.beq tag 47 with
    | false => rfl
    | true => have := Nat.eq_of_beq_eq_true hq; omega
  unfold zarrG at hg
  unfold zarrT
  rw [hb] at hg ⊢
  simp only [cond_false] at hg ⊢
  cases hq : Nat.beq (Nat.mod t 100) tag && Nat.blt 0 (Nat.div t 100) with
  | true =>
    simp only [cond_true]
    rw [Bool.and_eq_true] at hq
    have e1 : t % 100 = tag := Nat.eq_of_beq_eq_true hq.1
    have e2 : 0 < t / 100 := by have z := hq.2; rw [Nat.blt_eq] at z; exact z
    rcases hv with hv | ⟨hv1, hv2⟩
    · have hv : t = 0 := hv
      subst hv
      omega
    · obtain ⟨r1, r2, r3, r4⟩ := zty_arr e1 h40 h47 hv2
      exact ⟨r1, r2, r3, r4.resolve_right (by omega)⟩
  | false =>
    rw [hq] at hg
    simp only [cond_false] at hg ⊢
    cases hq2 : Nat.beq t 0 with
    | true =>
      rw [hq2] at hg
      have hg : zty (100 + tag) a h := hg.1
      obtain ⟨r1, r2, r3, r4⟩ := zty_arr (tag := tag) (by omega) h40 h47 hg
      exact ⟨r1, r2, r3, r4.resolve_right (by omega)⟩
    | false =>
      rw [hq2] at hg
      exact hg.1.elim
theorem zscr_ok {a t : Nat} (hv : zok h (.inr (.inl (a, t)))) (hg : zg (zarrG 47 a t h) True) : a = 1 := by
  unfold zarrG at hg
  simp only [show Nat.beq 47 47 = true from rfl, cond_true] at hg
  cases hq : Nat.beq t 147 with
  | true =>
    have e1 : t = 147 := Nat.eq_of_beq_eq_true hq
    rcases hv with hv | ⟨hv1, hv2⟩
    · have hv : t = 0 := hv
      omega
    · have hv2 : zty t a h := hv2
      rw [e1] at hv2
      exact hv2
  | false =>
    rw [hq] at hg
    simp only [cond_false] at hg
    cases hq2 : Nat.beq t 0 with
    | true => rw [hq2] at hg; exact hg.1
    | false => rw [hq2] at hg; exact hg.1.elim
theorem zg_app {l1 l2 : List Prop} : zg (l1 ++ l2) True ↔ zg l1 True ∧ zg l2 True := by
  induction l1 with
  | nil => simp [zg]
  | cons a r ih => simp only [List.cons_append, zg]; rw [ih]; exact (and_assoc).symm
theorem zref_nz {a : Nat} (ha : 2 ≤ a) : va_rf (zro b base a) = .ref (zra b base a) := by rw [zro_some (by omega)]; rfl
end ZF
