/-! Stores into arrays, new cells, switches. -/
section ZH
variable {p : Program} {l : Launch} {e : Env} {R : Room} {s : State} {m : MethodId} {args : Array Value} {below : List Frame} {meth : Method} {c : Code} {H : Heap} {locs : List Loc} {cells slots : Nat} {Q : State → Prop}
variable {b base : Nat} {D : va_G} {y pc : Nat} {ls st st1 ls1 r : List zV} {h h1 : zH} {lsr lsr1 : Array Slot} {v v1 v2 v3 v4 : zV}
theorem zcR_arrI {H1 : Heap} {tag a : Nat} {ty : FieldType} {cA : ClassId} (ht : tg h1 a = tag) (hty : zaI tag = some ty) (h1c : ArrOfT s cA ty) (h2c : H1[zra b base a]? = some (arrV cA (ln h1 a) (fun j => zel tag (gI h1 a (Int.ofNat j))))) : zcR b base D s h1 a H1 := by
  have htag : tag = 40 ∨ tag = 41 ∨ tag = 42 ∨ tag = 43 := by
    unfold zaI at hty
    split at hty
    · exact Or.inl rfl
    · exact Or.inr (Or.inl rfl)
    · exact Or.inr (Or.inr (Or.inl rfl))
    · exact Or.inr (Or.inr (Or.inr rfl))
    · cases hty
  subst ht
  refine ⟨fun z => by omega, fun ty2 h2 => ?_, fun C1 h2 => ?_⟩
  · rw [hty] at h2
    cases h2
    exact ⟨cA, h1c, h2c⟩
  · exfalso
    rcases htag with z | z | z | z <;> rw [z] at h2 <;> cases h2
theorem zcR_arrO {H1 : Heap} {tag a : Nat} {C1 : String} {cA : ClassId} (ht : tg h1 a = tag) (hty : zaO tag = some C1) (h1c : ArrOfT s cA (.object C1)) (h3c : va_RA s cA (.object C1)) (h2c : H1[zra b base a]? = some (arrV cA (ln h1 a) (fun j => va_rf (zro b base (gR h1 a (Int.ofNat j)))))) : zcR b base D s h1 a H1 := by
  have htag : tag = 44 ∨ tag = 45 ∨ tag = 46 := by
    unfold zaO at hty
    split at hty
    · exact Or.inl rfl
    · exact Or.inr (Or.inl rfl)
    · exact Or.inr (Or.inr rfl)
    · cases hty
  subst ht
  refine ⟨fun z => by omega, fun ty2 h2 => ?_, fun C2 h2 => ?_⟩
  · exfalso
    rcases htag with z | z | z <;> rw [z] at h2 <;> cases h2
  · rw [hty] at h2
    cases h2
    exact ⟨cA, h1c, h3c, h2c⟩
theorem zupdI {tag a : Nat} {i x : Int} (i0 : 0 ≤ i) : updV (fun j => zel tag (gI h a (Int.ofNat j))) i.toNat (zel tag x) = fun j => zel tag (gI (sI h a i x) a (Int.ofNat j)) := by
  funext j
  unfold updV
  by_cases hj : j = i.toNat
  · rw [if_pos hj, gI_sI, if_pos ⟨rfl, by rw [hj]; exact z_toNat i0⟩]
  · rw [if_neg hj, gI_sI, if_neg]
    rintro ⟨-, q⟩
    apply hj
    rw [← q]
    rfl
theorem zupdR {a x : Nat} {i : Int} (i0 : 0 ≤ i) : updV (fun j => va_rf (zro b base (gR h a (Int.ofNat j)))) i.toNat (va_rf (zro b base x)) = fun j => va_rf (zro b base (gR (sR h a i x) a (Int.ofNat j))) := by
  funext j
  unfold updV
  by_cases hj : j = i.toNat
  · rw [if_pos hj, gR_sR, if_pos ⟨rfl, by rw [hj]; exact z_toNat i0⟩]
  · rw [if_neg hj, gR_sR, if_neg]
    rintro ⟨-, q⟩
    apply hj
    rw [← q]
    rfl
/-- behind a store of an int -/
theorem zstI {H1 : Heap} {tag a : Nat} {i x : Int} {ty : FieldType} {cA : ClassId} {ofs : Nat} (F : zfrm b base D s y ls st h H locs lsr) (hs : ∀ v ∈ st1, v ∈ st) (a1 : 2 ≤ a) (a2 : a < nx h) (a3 : tg h a = tag) (hty : zaI tag = some ty) (c1 : ArrOfT s cA ty) (i0 : 0 ≤ i) (hx : inR x)
    (e1 : H1[zra b base a]? = some ((arrV cA (ln h a) (fun j => zel tag (gI h a (Int.ofNat j)))).setSlot i.toNat (zel tag x))) (e2 : H1.size = H.size) (e3 : ∀ q, q ≠ zra b base a → H1[q]? = H[q]?) : zfrm b base D s y ls st1 (sI h a i x) H1 (locs ++ [⟨zra b base a, ofs⟩]) lsr := by
  rw [arrV_store, zupdI i0] at e1
  exact F.wr (F.1.wI a1 a2 hx e2 e3 (zcR_arrI (h1 := sI h a i x) a3 hty c1 e1)) zle_sI (zmem_app F.2.1 (zra_ge a1)) hs
theorem zfty_ok (ci k : Nat) : zfty ci k ≠ .long ∧ zfty ci k ≠ .float ∧ zfty ci k ≠ .double ∧ zfty ci k ≠ .byte ∧ zfty ci k ≠ .char ∧ zfty ci k ≠ .short := by
  unfold zfty
  split
  · unfold zY0; split <;> exact ⟨by decide, by decide, by decide, by decide, by decide, by decide⟩
  · unfold zY1; split <;> exact ⟨by decide, by decide, by decide, by decide, by decide, by decide⟩
  · unfold zY2; split <;> exact ⟨by decide, by decide, by decide, by decide, by decide, by decide⟩
  · unfold zY3; split <;> exact ⟨by decide, by decide, by decide, by decide, by decide, by decide⟩
  · unfold zY4; split <;> exact ⟨by decide, by decide, by decide, by decide, by decide, by decide⟩
  · unfold zY5; split <;> exact ⟨by decide, by decide, by decide, by decide, by decide, by decide⟩
  · unfold zY6; split <;> exact ⟨by decide, by decide, by decide, by decide, by decide, by decide⟩
  · unfold zY7; split <;> exact ⟨by decide, by decide, by decide, by decide, by decide, by decide⟩
  · unfold zY8; split <;> exact ⟨by decide, by decide, by decide, by decide, by decide, by decide⟩
  · unfold zY9; split <;> exact ⟨by decide, by decide, by decide, by decide, by decide, by decide⟩
  · unfold zY10; split <;> exact ⟨by decide, by decide, by decide, by decide, by decide, by decide⟩
  · unfold zY11; split <;> exact ⟨by decide, by decide, by decide, by decide, by decide, by decide⟩
theorem znar_b {x : Int} (h : -128 ≤ x ∧ x ≤ 127) : narrow .byte (.int (Int32.ofInt x)) = .int (Int32.ofInt x) := by
  have e1 : Int32.ofInt x = (Int8.ofInt x).toInt32 := (z_b8 h.1 h.2).symm
  rw [e1]
  have e2 := pk_nb (Int32.ofInt x)
  have e3 : (Int32.ofInt x).toInt8 = Int8.ofInt x := by
    apply Int8.toInt_inj.mp
    rw [Int8.toInt_ofInt_of_le (by omega) (by omega), Int32.toInt_toInt8, z32 (by unfold inR; omega)]
    exact Int.bmod_eq_of_le (by omega) (by omega)
  rw [e3] at e2
  exact e2
set_option maxHeartbeats 1000000 in
theorem zJ_iastore (C : zctx y p R s m args meth c) (F : zfrm b base D s y ls st h H locs lsr) {len : Nat} {ops : List Nat} (hd : decode (zB y) pc = .ok (.iastore, len)) (hs : zsta y pc (.iastore) len ops = true) {wf : Bool} {brs : List (Prop × Nat)} {d : Nat} (h2 : (zstp (.iastore) ops pc len ls st h).2 = some (.inl (wf, brs, d, ls1, st1, h1))) (hg : zg (zstp (.iastore) ops pc len ls st h).1 True)
    (hroom : cells + (nx h1 - nx h) ≤ R.cells ∧ slots + (sc h1 - sc h) ≤ R.slots) (hcs : cells ≤ R.cells ∧ slots ≤ R.slots)
    (K : ∀ H1 locs1 lsr1, zfrm b base D s y ls1 st1 h1 H1 locs1 lsr1 → W p l e R s m args below meth c H1 locs1 (cells + (nx h1 - nx h)) (slots + (sc h1 - sc h)) Q (F0 m (zch brs d) lsr1 (st1.map (zrv b base)))) : W p l e R s m args below meth c H locs cells slots Q (F0 m pc lsr (st.map (zrv b base))) := by
  simp only [zsta, Bool.and_eq_true, decide_eq_true_eq] at hs
  obtain ⟨hl, hs⟩ := hs
  obtain rfl : len = 1 := Nat.eq_of_beq_eq_true hl
  dsimp only [zstp, zast] at h2 hg
  split at h2
  · rename_i x1 i1 a ta r1
    cases h2
    have K1 := K
    simp only [show nx (sI h a i1 x1) = nx h from rfl, show sc (sI h a i1 x1) = sc h from rfl, Nat.sub_self, Nat.add_zero] at K1
    obtain ⟨hg1, hg2⟩ := zg_app.mp hg
    obtain ⟨i0, iN, hg3⟩ := hg2
    have hR := F.1
    have hx : inR x1 := F.top.1
    have hi : inR i1 := F.pop.top.1
    have hv : zok h (.inr (.inl (a, ta))) := F.pop.pop.top.1
    have hsub : ∀ v ∈ st1, v ∈ (.inl x1 :: .inl i1 :: .inr (.inl (a, ta)) :: st1 : List zV) := fun v hv => List.mem_cons_of_mem _ (List.mem_cons_of_mem _ (List.mem_cons_of_mem _ hv))
    show W p l e R s m args below meth c H locs cells slots Q (F0 m pc lsr (.int (Int32.ofInt x1) :: .int (Int32.ofInt i1) :: va_rf (zro b base a) :: st1.map (zrv b base)))
    subst hs
    obtain ⟨a1, a2, a3, a4⟩ := zarr_ok (tag := 40) (by omega) (by omega) hv hg1
    have iN : i1 < zlen (zarrT 40 ta) a h := iN
    rw [a4] at iN
    obtain ⟨cA, c1, c2⟩ := zarrI (ty := .int) hR a1 a2 (by rw [a3]; rfl)
    rw [a3] at c2
    rw [zref_nz a1]
    refine W.iast C.1 C.2.1 c2 (c1 _ _) (fun q => by cases q) (by rw [arrV_size]; exact z_idx hi i0 iN) rfl rfl hd (fun H1 e1 e2 e3 => K1 H1 _ lsr (zstI F hsub a1 a2 a3 rfl c1 i0 hx (by
      rw [z_clamp hi] at e1
      rw [e1]
      rfl) e2 e3))
  · rename_i x1 i1 a ta r1
    exfalso
    cases h2
    obtain ⟨-, hg2⟩ := zg_app.mp hg
    have hz := hg2.2.2.2.1
    subst hs
    simp at hz
  · cases h2
set_option maxHeartbeats 1000000 in
theorem zJ_bastore (C : zctx y p R s m args meth c) (F : zfrm b base D s y ls st h H locs lsr) {len : Nat} {ops : List Nat} (hd : decode (zB y) pc = .ok (.bastore, len)) (hs : zsta y pc (.bastore) len ops = true) {wf : Bool} {brs : List (Prop × Nat)} {d : Nat} (h2 : (zstp (.bastore) ops pc len ls st h).2 = some (.inl (wf, brs, d, ls1, st1, h1))) (hg : zg (zstp (.bastore) ops pc len ls st h).1 True)
    (hroom : cells + (nx h1 - nx h) ≤ R.cells ∧ slots + (sc h1 - sc h) ≤ R.slots) (hcs : cells ≤ R.cells ∧ slots ≤ R.slots)
    (K : ∀ H1 locs1 lsr1, zfrm b base D s y ls1 st1 h1 H1 locs1 lsr1 → W p l e R s m args below meth c H1 locs1 (cells + (nx h1 - nx h)) (slots + (sc h1 - sc h)) Q (F0 m (zch brs d) lsr1 (st1.map (zrv b base)))) : W p l e R s m args below meth c H locs cells slots Q (F0 m pc lsr (st.map (zrv b base))) := by
  simp only [zsta, Bool.and_eq_true, Bool.or_eq_true, decide_eq_true_eq] at hs
  obtain ⟨hl, hs⟩ := hs
  obtain rfl : len = 1 := Nat.eq_of_beq_eq_true hl
  dsimp only [zstp, zast] at h2 hg
  split at h2
  · rename_i x1 i1 a ta r1
    cases h2
    have K1 := K
    simp only [show nx (sI h a i1 x1) = nx h from rfl, show sc (sI h a i1 x1) = sc h from rfl, Nat.sub_self, Nat.add_zero] at K1
    obtain ⟨hg1, hg2⟩ := zg_app.mp hg
    obtain ⟨i0, iN, hg3⟩ := hg2
    have hR := F.1
    have hx : inR x1 := F.top.1
    have hi : inR i1 := F.pop.top.1
    have hv : zok h (.inr (.inl (a, ta))) := F.pop.pop.top.1
    have hsub : ∀ v ∈ st1, v ∈ (.inl x1 :: .inl i1 :: .inr (.inl (a, ta)) :: st1 : List zV) := fun v hv => List.mem_cons_of_mem _ (List.mem_cons_of_mem _ (List.mem_cons_of_mem _ hv))
    show W p l e R s m args below meth c H locs cells slots Q (F0 m pc lsr (.int (Int32.ofInt x1) :: .int (Int32.ofInt i1) :: va_rf (zro b base a) :: st1.map (zrv b base)))
    rcases hs with rfl | rfl
    · obtain ⟨a1, a2, a3, a4⟩ := zarr_ok (tag := 41) (by omega) (by omega) hv hg1
      have iN : i1 < zlen (zarrT 41 ta) a h := iN
      rw [a4] at iN
      obtain ⟨cA, c1, c2⟩ := zarrI (ty := .boolean) hR a1 a2 (by rw [a3]; rfl)
      rw [a3] at c2
      rw [zref_nz a1]
      refine W.zast C.1 C.2.1 c2 (c1 _ _) (fun q => by cases q) (by rw [arrV_size]; exact z_idx hi i0 iN) rfl rfl hd (fun H1 e1 e2 e3 => K1 H1 _ lsr (zstI F hsub a1 a2 a3 rfl c1 i0 hx (by
        rw [z_clamp hi] at e1
        rw [e1]
        rw [(znar_z hg3.1).1]
        rfl) e2 e3))
    · obtain ⟨a1, a2, a3, a4⟩ := zarr_ok (tag := 42) (by omega) (by omega) hv hg1
      have iN : i1 < zlen (zarrT 42 ta) a h := iN
      rw [a4] at iN
      obtain ⟨cA, c1, c2⟩ := zarrI (ty := .byte) hR a1 a2 (by rw [a3]; rfl)
      rw [a3] at c2
      rw [zref_nz a1]
      refine W.bast C.1 C.2.1 c2 (c1 _ _) (fun q => by cases q) (by rw [arrV_size]; exact z_idx hi i0 iN) rfl rfl hd (fun H1 e1 e2 e3 => K1 H1 _ lsr (zstI F hsub a1 a2 a3 rfl c1 i0 hx (by
        rw [z_clamp hi] at e1
        rw [e1]
        rw [znar_b hg3.1]
        rfl) e2 e3))
  · rename_i x1 i1 a ta r1
    exfalso
    cases h2
    obtain ⟨-, hg2⟩ := zg_app.mp hg
    have hz := hg2.2.2.2.1
    rcases hs with rfl | rfl <;> simp at hz
  · cases h2
set_option maxHeartbeats 1000000 in
theorem zJ_laload (C : zctx y p R s m args meth c) (F : zfrm b base D s y ls st h H locs lsr) {len : Nat} {ops : List Nat} (hd : decode (zB y) pc = .ok (.laload, len)) (hs : zsta y pc (.laload) len ops = true) {wf : Bool} {brs : List (Prop × Nat)} {d : Nat} (h2 : (zstp (.laload) ops pc len ls st h).2 = some (.inl (wf, brs, d, ls1, st1, h1))) (hg : zg (zstp (.laload) ops pc len ls st h).1 True)
    (hroom : cells + (nx h1 - nx h) ≤ R.cells ∧ slots + (sc h1 - sc h) ≤ R.slots) (hcs : cells ≤ R.cells ∧ slots ≤ R.slots)
    (K : ∀ H1 locs1 lsr1, zfrm b base D s y ls1 st1 h1 H1 locs1 lsr1 → W p l e R s m args below meth c H1 locs1 (cells + (nx h1 - nx h)) (slots + (sc h1 - sc h)) Q (F0 m (zch brs d) lsr1 (st1.map (zrv b base)))) : W p l e R s m args below meth c H locs cells slots Q (F0 m pc lsr (st.map (zrv b base))) := by
  simp only [zsta] at hs
  obtain rfl : len = 1 := Nat.eq_of_beq_eq_true hs
  dsimp only [zstp, zlald] at h2 hg
  split at h2
  · rename_i i1 a ta r1
    cases h2
    obtain ⟨hg1, hg2⟩ := zg_app.mp hg
    obtain ⟨i0, iN, -⟩ := hg2
    have hR := F.1
    have hi : inR i1 := F.top.1
    have hv : zok h (.inr (.inl (a, ta))) := F.pop.top.1
    show W p l e R s m args below meth c H locs cells slots Q (F0 m pc lsr (.int (Int32.ofInt i1) :: va_rf (zro b base a) :: r1.map (zrv b base)))
    have k := zk0 K (F.pop.pop.push (v := .inr (.inr (.inl (gI h a i1)))) ⟨zRL (hR.2.2.2.2.2.1 _ _), rfl⟩)
    obtain ⟨a1, a2, a3, a4⟩ := zarr_ok (tag := 43) (by omega) (by omega) hv hg1
    have iN : i1 < zlen (zarrT 43 ta) a h := iN
    rw [a4] at iN
    have hlt : i1.toNat < ln h a := by simp only [Int.ofNat_eq_natCast] at iN; omega
    obtain ⟨cA, c1, c2⟩ := zarrI (ty := .long) hR a1 a2 (by rw [a3]; rfl)
    rw [zref_nz a1]
    refine W.lald (v := .long (Int64.ofInt (gI h a i1))) C.1 C.2.1 c2 (c1 _ _) (fun q => by cases q) (by rw [arrV_size]; exact z_idx hi i0 iN) ?_ rfl rfl hd k
    rw [z_clamp hi, arrV_read _ _ hlt, a3, z_toNat i0]
    rfl
  · cases h2
set_option maxHeartbeats 1000000 in
theorem zJ_lastore (C : zctx y p R s m args meth c) (F : zfrm b base D s y ls st h H locs lsr) {len : Nat} {ops : List Nat} (hd : decode (zB y) pc = .ok (.lastore, len)) (hs : zsta y pc (.lastore) len ops = true) {wf : Bool} {brs : List (Prop × Nat)} {d : Nat} (h2 : (zstp (.lastore) ops pc len ls st h).2 = some (.inl (wf, brs, d, ls1, st1, h1))) (hg : zg (zstp (.lastore) ops pc len ls st h).1 True)
    (hroom : cells + (nx h1 - nx h) ≤ R.cells ∧ slots + (sc h1 - sc h) ≤ R.slots) (hcs : cells ≤ R.cells ∧ slots ≤ R.slots)
    (K : ∀ H1 locs1 lsr1, zfrm b base D s y ls1 st1 h1 H1 locs1 lsr1 → W p l e R s m args below meth c H1 locs1 (cells + (nx h1 - nx h)) (slots + (sc h1 - sc h)) Q (F0 m (zch brs d) lsr1 (st1.map (zrv b base)))) : W p l e R s m args below meth c H locs cells slots Q (F0 m pc lsr (st.map (zrv b base))) := by
  simp only [zsta, Bool.and_eq_true, decide_eq_true_eq] at hs
  obtain ⟨hl, rfl⟩ := hs
  obtain rfl : len = 1 := Nat.eq_of_beq_eq_true hl
  dsimp only [zstp, zast] at h2 hg
  split at h2
  · rename_i x1 i1 a ta r1
    exfalso
    cases h2
    obtain ⟨-, hg2⟩ := zg_app.mp hg
    exact hg2.2.2.1.elim
  · rename_i x1 i1 a ta r1
    cases h2
    have K1 := K
    simp only [show nx (sI h a i1 x1) = nx h from rfl, show sc (sI h a i1 x1) = sc h from rfl, Nat.sub_self, Nat.add_zero] at K1
    obtain ⟨hg1, hg2⟩ := zg_app.mp hg
    obtain ⟨i0, iN, hx, -⟩ := hg2
    have hR := F.1
    have hi : inR i1 := F.pop.top.1
    have hv : zok h (.inr (.inl (a, ta))) := F.pop.pop.top.1
    have hsub : ∀ v ∈ st1, v ∈ (.inr (.inr (.inl x1)) :: .inl i1 :: .inr (.inl (a, ta)) :: st1 : List zV) := fun v hv => List.mem_cons_of_mem _ (List.mem_cons_of_mem _ (List.mem_cons_of_mem _ hv))
    show W p l e R s m args below meth c H locs cells slots Q (F0 m pc lsr (.long (Int64.ofInt x1) :: .int (Int32.ofInt i1) :: va_rf (zro b base a) :: st1.map (zrv b base)))
    obtain ⟨a1, a2, a3, a4⟩ := zarr_ok (tag := 43) (by omega) (by omega) hv hg1
    have iN : i1 < zlen (zarrT 43 ta) a h := iN
    rw [a4] at iN
    obtain ⟨cA, c1, c2⟩ := zarrI (ty := .long) hR a1 a2 (by rw [a3]; rfl)
    rw [a3] at c2
    rw [zref_nz a1]
    refine W.last C.1 C.2.1 c2 (c1 _ _) (fun q => by cases q) (by rw [arrV_size]; exact z_idx hi i0 iN) rfl rfl hd (fun H1 e1 e2 e3 => K1 H1 _ lsr (zstI F hsub a1 a2 a3 rfl c1 i0 hx (by
      rw [z_clamp hi] at e1
      rw [e1]
      rfl) e2 e3))
  · cases h2
set_option maxHeartbeats 1000000 in
theorem zJ_aastore (C : zctx y p R s m args meth c) (F : zfrm b base D s y ls st h H locs lsr) {len : Nat} {ops : List Nat} (hd : decode (zB y) pc = .ok (.aastore, len)) (hs : zsta y pc (.aastore) len ops = true) {wf : Bool} {brs : List (Prop × Nat)} {d : Nat} (h2 : (zstp (.aastore) ops pc len ls st h).2 = some (.inl (wf, brs, d, ls1, st1, h1))) (hg : zg (zstp (.aastore) ops pc len ls st h).1 True)
    (hroom : cells + (nx h1 - nx h) ≤ R.cells ∧ slots + (sc h1 - sc h) ≤ R.slots) (hcs : cells ≤ R.cells ∧ slots ≤ R.slots)
    (K : ∀ H1 locs1 lsr1, zfrm b base D s y ls1 st1 h1 H1 locs1 lsr1 → W p l e R s m args below meth c H1 locs1 (cells + (nx h1 - nx h)) (slots + (sc h1 - sc h)) Q (F0 m (zch brs d) lsr1 (st1.map (zrv b base)))) : W p l e R s m args below meth c H locs cells slots Q (F0 m pc lsr (st.map (zrv b base))) := by
  simp only [zsta, Bool.and_eq_true] at hs
  obtain ⟨hl, hs⟩ := hs
  obtain rfl : len = 1 := Nat.eq_of_beq_eq_true hl
  split at hs
  · rename_i tag te
    rw [Bool.and_eq_true] at hs
    obtain ⟨hs1, hs2⟩ := hs
    have htag := zacm_ok hs1
    have hte : te = 100 + zacm tag := Nat.eq_of_beq_eq_true hs2
    dsimp only [zstp, zaast] at h2 hg
    split at h2
    · rename_i x1 tx i1 a ta r1
      cases h2
      have K1 := K
      simp only [show nx (sR h a i1 x1) = nx h from rfl, show sc (sR h a i1 x1) = sc h from rfl, Nat.sub_self, Nat.add_zero] at K1
      obtain ⟨hg1, hg2⟩ := zg_app.mp hg
      obtain ⟨i0, iN, hg3⟩ := hg2
      have hR := F.1
      have hi : inR i1 := F.pop.top.1
      have hv : zok h (.inr (.inl (a, ta))) := F.pop.pop.top.1
      have hsub : ∀ v ∈ st1, v ∈ (.inr (.inl (x1, tx)) :: .inl i1 :: .inr (.inl (a, ta)) :: st1 : List zV) := fun v hv => List.mem_cons_of_mem _ (List.mem_cons_of_mem _ (List.mem_cons_of_mem _ hv))
      have hci : zacm tag < 12 := by rw [Nat.blt_eq] at hs1; exact hs1
      obtain ⟨hC1, h40, h47⟩ : zaO tag = some (zcr (zacm tag)).1 ∧ 40 ≤ tag ∧ tag < 47 := by
        rcases htag with rfl | rfl | rfl <;> exact ⟨rfl, by omega, by omega⟩
      obtain ⟨a1, a2, a3, a4⟩ := zarr_ok (tag := tag) h40 h47 hv hg1
      have iN : i1 < zlen (zarrT tag ta) a h := iN
      rw [a4] at iN
      have hlt : i1.toNat < ln h a := by simp only [Int.ofNat_eq_natCast] at iN; omega
      obtain ⟨cA, c1, c2, c3⟩ := zarrO hR a1 a2 (by rw [a3]; exact hC1)
      have hnlt : tg h a < 20 → ∀ q ∈ zlay (tg h a), Int.ofNat q.1 ≠ i1 := fun z => by omega
      have fin : ∀ (H1 : Heap) (ofs : Nat), H1[zra b base a]? = some ((arrV cA (ln h a) (fun j => va_rf (zro b base (gR h a (Int.ofNat j))))).setSlot i1.toNat (va_rf (zro b base x1))) → H1.size = H.size → (∀ q, q ≠ zra b base a → H1[q]? = H[q]?) → W p l e R s m args below meth c H1 (locs ++ [⟨zra b base a, ofs⟩]) cells slots Q (F0 m (pc + 1) lsr (st1.map (zrv b base))) := by
        intro H1 ofs e1 e2 e3
        rw [arrV_store, zupdR i0] at e1
        exact K1 H1 _ lsr (F.wr (hR.wR a1 a2 e2 e3 (zcR_arrO (h1 := sR h a i1 x1) a3 hC1 c1 c2 e1) hnlt) zle_sR (zmem_app F.2.1 (zra_ge a1)) hsub)
      show W p l e R s m args below meth c H locs cells slots Q (F0 m pc lsr (va_rf (zro b base x1) :: .int (Int32.ofInt i1) :: va_rf (zro b base a) :: st1.map (zrv b base)))
      rw [zref_nz a1]
      by_cases hx0 : x1 = 0
      · rw [show zro b base x1 = none by rw [hx0]; rfl]
        refine va_WaastN C.1 C.2.1 c3 (c1 _ _) (fun q => by cases q) (by rw [arrV_size]; exact z_idx hi i0 iN) rfl rfl hd (fun H1 e1 e2 e3 => fin H1 _ ?_ e2 e3)
        rw [z_clamp hi] at e1
        rw [e1, hx0]
        rfl
      · have hty : zty te x1 h := by
          revert hg3
          show zg (bif Nat.beq tx te then [] else [x1 = 0 ∨ zty te x1 h]) True → _
          cases hb : Nat.beq tx te with
          | true =>
            intro _
            have hv2 : zok h (.inr (.inl (x1, tx))) := F.top.1
            have e1 : tx = te := Nat.eq_of_beq_eq_true hb
            rcases hv2 with z | ⟨-, z⟩
            · have z : tx = 0 := z
              omega
            · have z : zty tx x1 h := z
              rw [e1] at z
              exact z
          | false => exact fun z => z.1.resolve_left hx0
        rw [hte] at hty
        obtain ⟨x2, x3, x4⟩ := zty_obj hci hty
        have hob : zobj (zacm tag) x1 h := ⟨x2, x3, Or.inl x4⟩
        obtain ⟨cellV, g1, g2, g3, -⟩ := hob.ob hci hR
        have hK := hR.2.2.2.2.2.2.2
        have hcls := (hK.1 _ _ (zcr_at hci)).2
        obtain ⟨kA, comp, k1, k2, k3, -⟩ := c2
        have hcomp : comp = D.1 (zacm tag) := Option.some.inj (k3.symm.trans hcls.1)
        subst hcomp
        obtain ⟨kC, hkC, -⟩ := hcls.2
        rw [zref_nz x2]
        refine W.aast C.1 C.2.1 c3 (fun q z => by cases z) (fun z => by cases z) k1 k2 rfl hkC ⟨fun z => z_idx hi i0 iN (Or.inl z), by rw [arrV_size, z_clamp hi]; exact hlt⟩ g1 (fun q z => by rw [g3] at z; cases z) (by rw [g2]; exact hkC) (by rw [g2]; exact va_assign hcls) rfl rfl hd (fun H1 e1 e2 e3 => fin H1 _ ?_ e2 e3)
        rw [z_clamp hi] at e1
        rw [e1, zref_nz x2]
    · cases h2
  · cases hs
/-- a new cell -/
theorem zle_nw {t n : Nat} : zle h (nw h t n) := ⟨Nat.le_succ _, Nat.le_add_right _ _, fun a ha => ⟨if_neg (Nat.ne_of_lt ha), fun _ => if_neg (Nat.ne_of_lt ha)⟩⟩
theorem zRel.wN {H1 : Heap} {t n : Nat} (hR : zRel b base D s h H) (ht : 20 ≤ t) (hsz : H1.size = H.size + 1) (hold : ∀ q, q < H.size → H1[q]? = H[q]?) (hcell : zcR b base D s (nw h t n) (nx h) H1) : zRel b base D s (nw h t n) H1 := by
  obtain ⟨k1, k2, k3, k4, k5, k6, k7, k8⟩ := hR
  have hne : ∀ a, a < nx h → a ≠ nx h := fun a ha => Nat.ne_of_lt ha
  refine ⟨Nat.le_trans k1 (Nat.le_succ _), ?_, k3, fun a h1 h2 => ?_, ?_, fun a j => ?_, fun a h1 h2 h3 q hq => ?_, k8⟩
  · rw [hsz, k2]; show base + (nx h - 2) + 1 = base + (nx h + 1 - 2); omega
  · have h2 : a < nx h + 1 := h2
    by_cases ha : a = nx h
    · rw [ha]; exact hcell
    · have ha2 : a < nx h := by omega
      exact (k4 a h1 ha2).kept (if_neg ha) (if_neg ha) (fun j => if_neg ha) (fun j => if_neg ha) (hold _ (by rw [k2]; exact zra_lt h1 ha2))
  · have n1 : (1 : Nat) ≠ nx h := by omega
    have e1 : ln (nw h t n) 1 = ln h 1 := if_neg n1
    have e2 : (fun j : Nat => Int32.ofInt (gI (nw h t n) 1 (Int.ofNat j))) = fun j : Nat => Int32.ofInt (gI h 1 (Int.ofNat j)) := funext fun j => by rw [show gI (nw h t n) 1 (Int.ofNat j) = gI h 1 (Int.ofNat j) from if_neg n1]
    rw [e1, e2]
    exact k5.kept (hold b (by rw [k2]; omega))
  · show inR (if a = nx h then 0 else h.1 a j)
    split
    · exact z_0
    · exact k6 a j
  · have h2 : a < nx h + 1 := h2
    by_cases ha : a = nx h
    · exfalso
      have : tg (nw h t n) a = t := if_pos ha
      omega
    · have et : tg (nw h t n) a = tg h a := if_neg ha
      rw [et] at h3 hq
      obtain ⟨z1, z2⟩ := k7 a h1 (by omega) h3 q hq
      refine ⟨?_, zty_mono zle_nw (zlay_perm _ q hq) z2⟩
      rw [show gR (nw h t n) a (Int.ofNat q.1) = gR h a (Int.ofNat q.1) from if_neg ha]
      exact z1
theorem zfrm.nw {H1 : Heap} {t n : Nat} (F : zfrm b base D s y ls st h H locs lsr) (ht : 20 ≤ t) (hsz : H1.size = H.size + 1) (hold : ∀ q, q < H.size → H1[q]? = H[q]?) (hcell : zcR b base D s (nw h t n) (nx h) H1) (hs : ∀ v ∈ st1, v ∈ st) : zfrm b base D s y ls (.inr (.inl (nx h, 0)) :: st1) (nw h t n) H1 locs lsr :=
  (F.wr (F.1.wN ht hsz hold hcell) zle_nw F.2.1 hs).push ⟨Or.inl rfl, rfl⟩
theorem zsz_nx (hR : zRel b base D s h H) : H.size = zra b base (nx h) := by rw [hR.2.1, zra_nx hR.1]
theorem zCL_b {o : Nat} {q : Nat × Nat} (hq : q ∈ zCL o) : q.2 < 12 := by
  have ho : o < 14 := by
    rcases Nat.lt_or_ge o 14 with z | z
    · exact z
    · obtain ⟨k, rfl⟩ : ∃ k, o = k + 14 := ⟨o - 14, by omega⟩
      exact absurd hq List.not_mem_nil
  have h1 := List.all_eq_true.mp (List.all_eq_true.mp zCLb_ok o (List.mem_range.mpr ho)) q hq
  rw [Nat.blt_eq] at h1
  exact h1
theorem zdef_fv {ci k n : Nat} : defaultValue (zfty ci k) = zfv b base (nw h (20 + ci) n) (nx h) ci k := by
  have e1 : gI (nw h (20 + ci) n) (nx h) (Int.ofNat k) = 0 := if_pos rfl
  have e2 : gR (nw h (20 + ci) n) (nx h) (Int.ofNat k) = 0 := if_pos rfl
  unfold zfv
  rw [e1, e2]
  have hb : ∀ t : FieldType, t ≠ .long → t ≠ .float → t ≠ .double → t ≠ .byte → t ≠ .char → t ≠ .short → defaultValue t = (match t with
    | .int => Value.int (Int32.ofInt 0)
    | .boolean => Value.int (Int32.ofInt 0)
    | _ => va_rf (zro b base 0)) := by
    intro t h1 h2 h3 h4 h5 h6
    cases t <;> first | rfl | exact absurd rfl h1 | exact absurd rfl h2 | exact absurd rfl h3 | exact absurd rfl h4 | exact absurd rfl h5 | exact absurd rfl h6
  have hz : zfty ci k ≠ .long ∧ zfty ci k ≠ .float ∧ zfty ci k ≠ .double ∧ zfty ci k ≠ .byte ∧ zfty ci k ≠ .char ∧ zfty ci k ≠ .short := zfty_ok ci k
  exact hb _ hz.1 hz.2.1 hz.2.2.1 hz.2.2.2.1 hz.2.2.2.2.1 hz.2.2.2.2.2
set_option maxHeartbeats 1000000 in
theorem zJ_new {i : Nat} (C : zctx y p R s m args meth c) (F : zfrm b base D s y ls st h H locs lsr) {len : Nat} {ops : List Nat} (hd : decode (zB y) pc = .ok (.new i, len)) (hs : zsta y pc (.new i) len ops = true) {wf : Bool} {brs : List (Prop × Nat)} {d : Nat} (h2 : (zstp (.new i) ops pc len ls st h).2 = some (.inl (wf, brs, d, ls1, st1, h1))) (hg : zg (zstp (.new i) ops pc len ls st h).1 True)
    (hroom : cells + (nx h1 - nx h) ≤ R.cells ∧ slots + (sc h1 - sc h) ≤ R.slots) (hcs : cells ≤ R.cells ∧ slots ≤ R.slots)
    (K : ∀ H1 locs1 lsr1, zfrm b base D s y ls1 st1 h1 H1 locs1 lsr1 → W p l e R s m args below meth c H1 locs1 (cells + (nx h1 - nx h)) (slots + (sc h1 - sc h)) Q (F0 m (zch brs d) lsr1 (st1.map (zrv b base)))) : W p l e R s m args below meth c H locs cells slots Q (F0 m pc lsr (st.map (zrv b base))) := by
  simp only [zsta, Bool.and_eq_true] at hs
  obtain ⟨hl, hs⟩ := hs
  obtain rfl : len = 3 := Nat.eq_of_beq_eq_true hl
  dsimp only [zstp] at h2
  cases hb : Nat.blt (ops.getD 0 0) 12 with
  | false => rw [hb] at h2; cases h2
  | true =>
    rw [hb] at h2 hs
    simp only [cond_true, Bool.and_eq_true, List.elem_eq_mem, decide_eq_true_eq] at h2 hs
    obtain ⟨hm, hn⟩ := hs
    have hn := Nat.eq_of_beq_eq_true hn
    have hci : ops.getD 0 0 < 12 := by rw [Nat.blt_eq] at hb; exact hb
    cases h2
    generalize ops.getD 0 0 = ci at *
    generalize ops.getD 1 0 = n at *
    have hR := F.1
    have hK := hR.2.2.2.2.2.2.2
    obtain ⟨z1, z2, z3, z4, z5, z6⟩ := zcl_ok ci _ (zcr_at hci)
    have hts := C.2.2.2.2.2.1
    have hKn := hK.1 ci _ (zcr_at hci)
    have e5 : nx (nw h (20 + ci) n) - nx h = 1 := by show nx h + 1 - nx h = 1; omega
    have e6 : sc (nw h (20 + ci) n) - sc h = n := by show sc h + n - sc h = n; omega
    rw [e5, e6] at hroom K
    subst hn
    refine W.newcK C.1 C.2.1 C.2.2.2.2.1 (hts _ (zCL_w _ _ hm)) (hts _ z5) (hts _ z6) rfl hd hroom.1 hroom.2 hKn.2.1 (zsz_nx hR) (fun H1 kC hkC e1 e2 e3 => ?_)
    have hcell : zcR b base D s (nw h (20 + ci) (zcr ci).2.2) (nx h) H1 := zcR_obj hci (Or.inr (if_pos rfl)) ((u_born (zfty ci) hts z1 hKn hkC e1 z2).to (fun k _ => zdef_fv))
    have k := K H1 locs lsr (F.nw (by omega) (by rw [e2, zsz_nx hR]) (fun q hq => e3 q (by rw [← zsz_nx hR]; exact hq)) hcell (fun v hv => hv))
    have e7 : zrv b base (.inr (.inl (nx h, 0))) = .ref (zra b base (nx h)) := zref_nz hR.1
    rw [List.map_cons, e7] at k
    exact k
set_option maxHeartbeats 1000000 in
theorem zJ_newarray {at1 : ArrayType} (C : zctx y p R s m args meth c) (F : zfrm b base D s y ls st h H locs lsr) {len : Nat} {ops : List Nat} (hd : decode (zB y) pc = .ok (.newarray at1, len)) (hs : zsta y pc (.newarray at1) len ops = true) {wf : Bool} {brs : List (Prop × Nat)} {d : Nat} (h2 : (zstp (.newarray at1) ops pc len ls st h).2 = some (.inl (wf, brs, d, ls1, st1, h1))) (hg : zg (zstp (.newarray at1) ops pc len ls st h).1 True)
    (hroom : cells + (nx h1 - nx h) ≤ R.cells ∧ slots + (sc h1 - sc h) ≤ R.slots) (hcs : cells ≤ R.cells ∧ slots ≤ R.slots)
    (K : ∀ H1 locs1 lsr1, zfrm b base D s y ls1 st1 h1 H1 locs1 lsr1 → W p l e R s m args below meth c H1 locs1 (cells + (nx h1 - nx h)) (slots + (sc h1 - sc h)) Q (F0 m (zch brs d) lsr1 (st1.map (zrv b base)))) : W p l e R s m args below meth c H locs cells slots Q (F0 m pc lsr (st.map (zrv b base))) := by
  simp only [zsta, Bool.and_eq_true] at hs
  obtain ⟨⟨hl, hs1⟩, hs2⟩ := hs
  obtain rfl : len = 2 := Nat.eq_of_beq_eq_true hl
  have hs1 := Nat.eq_of_beq_eq_true hs1
  dsimp only [zstp] at h2 hg
  split at h2
  · rename_i n1 r1
    cases h2
    dsimp only [zg] at hg
    obtain ⟨⟨n0, nM⟩, -⟩ := hg
    have hR := F.1
    have hn : inR n1 := F.top.1
    have hts := C.2.2.2.2.2.1
    rw [hs1] at K hroom
    have e5 : nx (nw h (zatb at1) n1.toNat) - nx h = 1 := by show nx h + 1 - nx h = 1; omega
    have e6 : sc (nw h (zatb at1) n1.toNat) - sc h = n1.toNat := by show sc h + n1.toNat - sc h = n1.toNat; omega
    rw [e5, e6] at hroom K
    have hn0 : ¬ Int32.ofInt n1 < 0 := fun z => by have := (zlt_iff hn z_0).mp (by rw [z_of0]; exact z); omega
    have hnN : n1.toNat ≤ 10000 := by omega
    have key : ∀ ty, zaI (zatb at1) = some ty → newarray.typeOf at1 = ty → Cond.arrayClass ty ∈ zwd → n1.toNat * componentBytes ty ≤ 536870912 → defaultValue ty = zel (zatb at1) 0 → 20 ≤ zatb at1 → W p l e R s m args below meth c H locs cells slots Q (F0 m pc lsr (.int (Int32.ofInt n1) :: r1.map (zrv b base))) := by
      intro ty t1 t2 t3 t4 t5 t6
      subst t2
      refine W.newaK C.1 C.2.1 (hts _ t3) rfl hd (N := n1.toNat) rfl hn0 (z_clamp hn) t4 hroom.1 hroom.2 (zsz_nx hR) (fun H1 cA e1 e2 e3 e4 => ?_)
      have e8 : (fun j : Nat => zel (zatb at1) (gI (nw h (zatb at1) n1.toNat) (nx h) (Int.ofNat j))) = fun _ => defaultValue (newarray.typeOf at1) := by
        funext j
        rw [show gI (nw h (zatb at1) n1.toNat) (nx h) (Int.ofNat j) = 0 from if_pos rfl, t5]
      have e9 : ln (nw h (zatb at1) n1.toNat) (nx h) = n1.toNat := if_pos rfl
      have hcell : zcR b base D s (nw h (zatb at1) n1.toNat) (nx h) H1 := zcR_arrI (if_pos rfl) t1 e4 (by rw [e8, e9]; exact e1)
      have k := K H1 locs lsr (F.nw t6 (by rw [e2, zsz_nx hR]) (fun q hq => e3 q (by rw [← zsz_nx hR]; exact hq)) hcell (fun v hv => List.mem_cons_of_mem _ hv))
      have e7 : zrv b base (.inr (.inl (nx h, 0))) = .ref (zra b base (nx h)) := zref_nz hR.1
      rw [List.map_cons, e7] at k
      exact k
    cases at1
    case int => exact key _ rfl rfl (zqS_in _ (by decide)) (by show n1.toNat * 4 ≤ _; omega) rfl (by decide)
    case boolean => exact key _ rfl rfl (zqS_in _ (by decide)) (by show n1.toNat * 1 ≤ _; omega) rfl (by decide)
    case byte => exact key _ rfl rfl (zqS_in _ (by decide)) (by show n1.toNat * 1 ≤ _; omega) rfl (by decide)
    case long => exact key _ rfl rfl (zqS_in _ (by decide)) (by show n1.toNat * 8 ≤ _; omega) rfl (by decide)
    all_goals cases hs2
  · cases h2
set_option maxHeartbeats 1000000 in
theorem zJ_anewarray {i : Nat} (C : zctx y p R s m args meth c) (F : zfrm b base D s y ls st h H locs lsr) {len : Nat} {ops : List Nat} (hd : decode (zB y) pc = .ok (.anewarray i, len)) (hs : zsta y pc (.anewarray i) len ops = true) {wf : Bool} {brs : List (Prop × Nat)} {d : Nat} (h2 : (zstp (.anewarray i) ops pc len ls st h).2 = some (.inl (wf, brs, d, ls1, st1, h1))) (hg : zg (zstp (.anewarray i) ops pc len ls st h).1 True)
    (hroom : cells + (nx h1 - nx h) ≤ R.cells ∧ slots + (sc h1 - sc h) ≤ R.slots) (hcs : cells ≤ R.cells ∧ slots ≤ R.slots)
    (K : ∀ H1 locs1 lsr1, zfrm b base D s y ls1 st1 h1 H1 locs1 lsr1 → W p l e R s m args below meth c H1 locs1 (cells + (nx h1 - nx h)) (slots + (sc h1 - sc h)) Q (F0 m (zch brs d) lsr1 (st1.map (zrv b base)))) : W p l e R s m args below meth c H locs cells slots Q (F0 m pc lsr (st.map (zrv b base))) := by
  simp only [zsta, Bool.and_eq_true, List.elem_eq_mem, decide_eq_true_eq] at hs
  obtain ⟨⟨hl, hm⟩, hs2⟩ := hs
  obtain rfl : len = 3 := Nat.eq_of_beq_eq_true hl
  have htag := zacm_ok hs2
  have hci : zacm (ops.getD 0 0) < 12 := by rw [Nat.blt_eq] at hs2; exact hs2
  dsimp only [zstp] at h2 hg
  split at h2
  · rename_i n1 r1
    cases h2
    dsimp only [zg] at hg
    obtain ⟨⟨n0, nM⟩, -⟩ := hg
    generalize ops.getD 0 0 = tag at *
    have hR := F.1
    have hn : inR n1 := F.top.1
    have hts := C.2.2.2.2.2.1
    have e5 : nx (nw h tag n1.toNat) - nx h = 1 := by show nx h + 1 - nx h = 1; omega
    have e6 : sc (nw h tag n1.toNat) - sc h = n1.toNat := by show sc h + n1.toNat - sc h = n1.toNat; omega
    rw [e5, e6] at hroom K
    have hn0 : ¬ Int32.ofInt n1 < 0 := fun z => by have := (zlt_iff hn z_0).mp (by rw [z_of0]; exact z); omega
    obtain ⟨hC1, hAO, h20⟩ : zaO tag = some (zcr (zacm tag)).1 ∧ va_AO (zcr (zacm tag)).1 s ∧ 20 ≤ tag := by
      have hN := C.2.2.2.2.2.2.2.1
      rcases htag with rfl | rfl | rfl
      · exact ⟨rfl, hN.2.1, by omega⟩
      · exact ⟨rfl, hN.2.2.1, by omega⟩
      · exact ⟨rfl, hN.2.2.2, by omega⟩
    have hcn := z_clamp hn
    show W p l e R s m args below meth c H locs cells slots Q (F0 m pc lsr (.int (Int32.ofInt n1) :: r1.map (zrv b base)))
    refine W.anew C.1 C.2.1 C.2.2.2.2.1 (hts _ (zCL_w _ _ hm)) (va_AO.use hAO) rfl hd rfl hn0 (by rw [hcn]; omega) hroom.1 (by rw [hcn]; exact hroom.2) (fun cA kA comp f1 f2 f3 f4 => ?_)
    rw [hcn]
    generalize hH1 : H.push ({ cls := cA, slots := Array.replicate n1.toNat .null, vm := .none } : Cell) = H1
    have z1 : H1.size = H.size + 1 := by rw [← hH1, Array.size_push]
    have q1 : H1[H.size]? = some (arrV cA n1.toNat (fun _ => .null)) := by rw [← hH1, Array.getElem?_push_size, ← arrV_new]
    have o1 : ∀ q : Nat, q < H.size → H1[q]? = H[q]? := fun q hq => by rw [← hH1, Array.getElem?_push, if_neg (Nat.ne_of_lt hq)]
    have hAr : ArrOfT s cA (.object (zcr (zacm tag)).1) := fun N z => ⟨(fun k h => by cases h), kA, f2, comp, f3⟩
    have hRA : va_RA s cA (.object (zcr (zacm tag)).1) := ⟨kA, comp, f2, f3, f4, f1⟩
    have e8 : (fun j : Nat => va_rf (zro b base (gR (nw h tag n1.toNat) (nx h) (Int.ofNat j)))) = fun _ => Value.null := by
      funext j
      rw [show gR (nw h tag n1.toNat) (nx h) (Int.ofNat j) = 0 from if_pos rfl]
      rfl
    have e9 : ln (nw h tag n1.toNat) (nx h) = n1.toNat := if_pos rfl
    have hcell : zcR b base D s (nw h tag n1.toNat) (nx h) H1 := zcR_arrO (if_pos rfl) hC1 hAr hRA (by rw [e8, e9, ← zsz_nx hR]; exact q1)
    have k := K H1 locs lsr (F.nw h20 z1 o1 hcell (fun v hv => List.mem_cons_of_mem _ hv))
    have e7 : zrv b base (.inr (.inl (nx h, 0))) = .ref H.size := by rw [zsz_nx hR]; exact zref_nz hR.1
    rw [List.map_cons, e7] at k
    exact k
  · cases h2
theorem zch_ts_in {x : Int} {pc d : Nat} : ∀ (offs : List Int) (lo : Int) (o1 : Int), lo ≤ x → offs[(x - lo).toNat]? = some o1 → zch (zts x pc lo offs) d = ((pc : Int) + o1).toNat
  | [], lo, o1, _, h2 => by simp at h2
  | a :: r, lo, o1, h1, h2 => by
    by_cases hx : x = lo
    · subst hx
      rw [Int.sub_self] at h2
      have h2 : some a = some o1 := h2
      cases h2
      exact if_pos rfl
    · have e1 : (x - lo).toNat = (x - (lo + 1)).toNat + 1 := by omega
      rw [e1] at h2
      have ih := zch_ts_in (d := d) (pc := pc) r (lo + 1) o1 (by omega) h2
      simp only [zts, zch, if_neg hx]
      exact ih
theorem zch_ts_out {x : Int} {pc d : Nat} : ∀ (offs : List Int) (lo : Int), (x < lo ∨ lo + Int.ofNat offs.length ≤ x) → zch (zts x pc lo offs) d = d
  | [], lo, _ => rfl
  | a :: r, lo, h1 => by
    have h1 : x < lo ∨ lo + ((r.length + 1 : Nat) : Int) ≤ x := h1
    have hx : ¬ x = lo := by omega
    have ih := zch_ts_out (d := d) (pc := pc) (x := x) r (lo + 1) (by simp only [Int.ofNat_eq_natCast]; omega)
    simp only [zts, zch, if_neg hx]
    exact ih
theorem zch_lk {x : Int} {pc : Nat} {dd : Int} : ∀ (ps : List (Int × Int)), zch (zlk x pc ps) ((pc : Int) + dd).toNat = ((pc : Int) + Op.lookupswitch.offset ps dd x).toNat
  | [] => rfl
  | a :: r => by
    have ih := zch_lk (x := x) (pc := pc) (dd := dd) r
    simp only [zlk, zch]
    rw [Op.lookupswitch.offset_cons]
    by_cases hx : x = a.1
    · rw [if_pos hx, if_pos hx.symm]
    · rw [if_neg hx, if_neg (fun z => hx z.symm)]
      exact ih
theorem zoff_nn {pc : Nat} {dd x : Int} (hd : 0 ≤ (pc : Int) + dd) : ∀ (ps : List (Int × Int)), (∀ q ∈ ps, 0 ≤ (pc : Int) + q.2) → 0 ≤ (pc : Int) + Op.lookupswitch.offset ps dd x
  | [], _ => hd
  | a :: r, h => by
    rw [Op.lookupswitch.offset_cons]
    split
    · exact h a List.mem_cons_self
    · exact zoff_nn hd r (fun q hq => h q (List.mem_cons_of_mem _ hq))
set_option maxHeartbeats 1000000 in
theorem zJ_tableswitch {dd lo hi : Int} {offs : Array Int} (C : zctx y p R s m args meth c) (F : zfrm b base D s y ls st h H locs lsr) {len : Nat} {ops : List Nat} (hd : decode (zB y) pc = .ok (.tableswitch dd lo hi offs, len)) (hs : zsta y pc (.tableswitch dd lo hi offs) len ops = true) {wf : Bool} {brs : List (Prop × Nat)} {d : Nat} (h2 : (zstp (.tableswitch dd lo hi offs) ops pc len ls st h).2 = some (.inl (wf, brs, d, ls1, st1, h1))) (hg : zg (zstp (.tableswitch dd lo hi offs) ops pc len ls st h).1 True)
    (hroom : cells + (nx h1 - nx h) ≤ R.cells ∧ slots + (sc h1 - sc h) ≤ R.slots) (hcs : cells ≤ R.cells ∧ slots ≤ R.slots)
    (K : ∀ H1 locs1 lsr1, zfrm b base D s y ls1 st1 h1 H1 locs1 lsr1 → W p l e R s m args below meth c H1 locs1 (cells + (nx h1 - nx h)) (slots + (sc h1 - sc h)) Q (F0 m (zch brs d) lsr1 (st1.map (zrv b base)))) : W p l e R s m args below meth c H locs cells slots Q (F0 m pc lsr (st.map (zrv b base))) := by
  simp only [zsta, Bool.and_eq_true, decide_eq_true_eq, List.all_eq_true] at hs
  obtain ⟨⟨⟨⟨hs1, hs2⟩, hs3⟩, hs4⟩, hs5⟩ := hs
  dsimp only [zstp] at h2
  split at h2
  · rename_i x1 r1
    cases h2
    have t1 : inR x1 := F.top.1
    have k := zk0 K F.pop
    have hx := z32 t1
    show W p l e R s m args below meth c H locs cells slots Q (F0 m pc lsr (.int (Int32.ofInt x1) :: st1.map (zrv b base)))
    by_cases hz : x1 < lo ∨ hi < x1
    · rw [zch_ts_out _ _ (by rw [hs3] at hz; omega)] at k
      exact lv_tableOut C.1 C.2.1 hd (by rw [hx]; exact hz) (Int.toNat_of_nonneg hs1).symm k
    · have hlt : (x1 - lo).toNat < offs.toList.length := by
        rw [hs3] at hz
        simp only [Int.ofNat_eq_natCast] at hz
        omega
      obtain ⟨o1, ho1⟩ : ∃ o1, offs.toList[(x1 - lo).toNat]? = some o1 := ⟨_, List.getElem?_eq_getElem hlt⟩
      rw [zch_ts_in _ _ o1 (by omega) ho1] at k
      exact lv_tableIn C.1 C.2.1 hd (by rw [hx]; omega) (by rw [hx]; omega) (by rw [hx, ← Array.getElem?_toList]; exact ho1) (Int.toNat_of_nonneg (hs2 o1 (List.mem_of_getElem? ho1))).symm k
  · cases h2
set_option maxHeartbeats 1000000 in
theorem zJ_lookupswitch {dd : Int} {ps : Array (Int × Int)} (C : zctx y p R s m args meth c) (F : zfrm b base D s y ls st h H locs lsr) {len : Nat} {ops : List Nat} (hd : decode (zB y) pc = .ok (.lookupswitch dd ps, len)) (hs : zsta y pc (.lookupswitch dd ps) len ops = true) {wf : Bool} {brs : List (Prop × Nat)} {d : Nat} (h2 : (zstp (.lookupswitch dd ps) ops pc len ls st h).2 = some (.inl (wf, brs, d, ls1, st1, h1))) (hg : zg (zstp (.lookupswitch dd ps) ops pc len ls st h).1 True)
    (hroom : cells + (nx h1 - nx h) ≤ R.cells ∧ slots + (sc h1 - sc h) ≤ R.slots) (hcs : cells ≤ R.cells ∧ slots ≤ R.slots)
    (K : ∀ H1 locs1 lsr1, zfrm b base D s y ls1 st1 h1 H1 locs1 lsr1 → W p l e R s m args below meth c H1 locs1 (cells + (nx h1 - nx h)) (slots + (sc h1 - sc h)) Q (F0 m (zch brs d) lsr1 (st1.map (zrv b base)))) : W p l e R s m args below meth c H locs cells slots Q (F0 m pc lsr (st.map (zrv b base))) := by
  simp only [zsta, Bool.and_eq_true, decide_eq_true_eq] at hs
  obtain ⟨⟨hs1, hs2⟩, hs3⟩ := hs
  dsimp only [zstp] at h2
  split at h2
  · rename_i x1 r1
    cases h2
    have t1 : inR x1 := F.top.1
    have k := zk0 K F.pop
    have hx := z32 t1
    rw [zch_lk] at k
    have hnn : 0 ≤ (pc : Int) + Op.lookupswitch.offset ps.toList dd x1 := zoff_nn hs1 _ (fun q hq => by
      have := List.all_eq_true.mp hs2 q hq
      simp only [Bool.and_eq_true, decide_eq_true_eq] at this
      exact this.1)
    exact lv_lookup C.1 C.2.1 hd hs3 (by rw [hx]) (Int.toNat_of_nonneg hnn).symm k
  · cases h2
end ZH
