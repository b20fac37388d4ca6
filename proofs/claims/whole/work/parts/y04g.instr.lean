/-! Instructions over the heap. -/
section ZG
variable {p : Program} {l : Launch} {e : Env} {R : Room} {s : State} {m : MethodId} {args : Array Value} {below : List Frame} {meth : Method} {c : Code} {H : Heap} {locs : List Loc} {cells slots : Nat} {Q : State → Prop}
variable {b base : Nat} {D : va_G} {y pc : Nat} {ls st st1 ls1 r : List zV} {h h1 : zH} {lsr lsr1 : Array Slot} {v v1 v2 v3 v4 : zV}
theorem zbeqF {a c : Nat} (h : a ≠ c) : Nat.beq a c = false := by
  cases hq : Nat.beq a c with
  | false => rfl
  | true => exact absurd (Nat.eq_of_beq_eq_true hq) h
theorem zbeqT {a : Nat} : Nat.beq a a = true := by simp
theorem zrcv {ci a ta ct : Nat} (hc : ci < 12) (hv : zok h (.inr (.inl (a, ta)))) (hg : zg (bif Nat.beq ta (100 + ci) then [] else bif Nat.beq ta 0 then [zty (bif Nat.beq ct 1 then 120 + ci else 100 + ci) a h] else [False]) True) : zobj ci a h ∧ (Nat.beq ct 1 = false → tg h a = ci) := by
  cases h1 : Nat.beq ta (100 + ci) with
  | true =>
    have e1 : ta = 100 + ci := Nat.eq_of_beq_eq_true h1
    rcases hv with hv | ⟨-, hv⟩
    · have hv : ta = 0 := hv
      omega
    · have hv : zty ta a h := hv
      rw [e1] at hv
      obtain ⟨r1, r2, r3⟩ := zty_obj hc hv
      exact ⟨⟨r1, r2, Or.inl r3⟩, fun _ => r3⟩
  | false =>
    rw [h1] at hg
    simp only [cond_false] at hg
    cases h2 : Nat.beq ta 0 with
    | false => rw [h2] at hg; exact hg.1.elim
    | true =>
      rw [h2] at hg
      simp only [cond_true] at hg
      cases h3 : Nat.beq ct 1 with
      | true =>
        rw [h3] at hg
        obtain ⟨r1, r2, r3⟩ := zty_raw hc hg.1
        exact ⟨⟨r1, r2, Or.inr r3⟩, fun z => by cases z⟩
      | false =>
        rw [h3] at hg
        obtain ⟨r1, r2, r3⟩ := zty_obj hc hg.1
        exact ⟨⟨r1, r2, Or.inl r3⟩, fun _ => r3⟩
theorem zpermb_ok {t : Nat} (h : zpermb t = true) : zperm t := by
  unfold zpermb at h
  rw [Bool.or_eq_true] at h
  unfold zperm
  rcases h with h | h
  · left; rw [Nat.blt_eq] at h; exact h
  · right; exact Nat.le_of_ble_eq_true h
theorem zacm_ok {tag : Nat} (h : Nat.blt (zacm tag) 12 = true) : tag = 44 ∨ tag = 45 ∨ tag = 46 := by
  unfold zacm at h
  split at h
  · exact Or.inl rfl
  · exact Or.inr (Or.inl rfl)
  · exact Or.inr (Or.inr rfl)
  · cases h
set_option maxHeartbeats 1000000 in
theorem zJ_getfield {i : Nat} (C : zctx y p R s m args meth c) (F : zfrm b base D s y ls st h H locs lsr) {len : Nat} {ops : List Nat} (hd : decode (zB y) pc = .ok (.getfield i, len)) (hs : zsta y pc (.getfield i) len ops = true) {wf : Bool} {brs : List (Prop × Nat)} {d : Nat} (h2 : (zstp (.getfield i) ops pc len ls st h).2 = some (.inl (wf, brs, d, ls1, st1, h1))) (hg : zg (zstp (.getfield i) ops pc len ls st h).1 True)
    (hroom : cells + (nx h1 - nx h) ≤ R.cells ∧ slots + (sc h1 - sc h) ≤ R.slots) (hcs : cells ≤ R.cells ∧ slots ≤ R.slots)
    (K : ∀ H1 locs1 lsr1, zfrm b base D s y ls1 st1 h1 H1 locs1 lsr1 → W p l e R s m args below meth c H1 locs1 (cells + (nx h1 - nx h)) (slots + (sc h1 - sc h)) Q (F0 m (zch brs d) lsr1 (st1.map (zrv b base)))) : W p l e R s m args below meth c H locs cells slots Q (F0 m pc lsr (st.map (zrv b base))) := by
  simp only [zsta, Bool.and_eq_true] at hs
  obtain ⟨hl, hs⟩ := hs
  obtain rfl : len = 3 := Nat.eq_of_beq_eq_true hl
  split at hs
  · rename_i ci k kind off t ct
    simp only [Bool.and_eq_true, List.elem_eq_mem, decide_eq_true_eq] at hs
    obtain ⟨hq, hgf⟩ := hs
    obtain ⟨hc, hk⟩ := zFL_b hq
    have hc : ci < 12 := hc
    dsimp only [zstp, zgetf] at h2 hg
    split at h2
    · rename_i c0 k0 kind0 off0 t0 ct0 a ta r1 heq
      cases heq
      dsimp only at hg
      have hR := F.1
      have hv : zok h (.inr (.inl (a, ta))) := F.top.1
      have hg0 : zg (bif Nat.beq ta (100 + ci) then [] else bif Nat.beq ta 0 then [zty (bif Nat.beq ct 1 then 120 + ci else 100 + ci) a h] else [False]) True := by
        revert hg
        cases Nat.blt kind 2 with
        | true => exact fun z => z
        | false =>
          simp only [cond_false]
          cases (Nat.beq kind 3 && Nat.beq ct 0) with
          | true => exact fun z => z
          | false => simp only [cond_false]; exact fun z => (zg_app.mp z).1
      obtain ⟨ho, hsl⟩ := zrcv hc hv hg0
      show W p l e R s m args below meth c H locs cells slots Q (F0 m pc lsr (va_rf (zro b base a) :: r1.map (zrv b base)))
      rw [zref_nz ho.1]
      refine zgetW C hR hq ho hd ?_
      unfold zgf at hgf
      cases hk2 : Nat.blt kind 2 with
      | true =>
        rw [hk2] at h2 hgf
        simp only [cond_true, Bool.or_eq_true, decide_eq_true_eq] at hgf
        cases h2
        rw [zfv_i hgf]
        exact zk0 K (F.pop.push (v := .inl (gI h a (Int.ofNat k))) ⟨hR.2.2.2.2.2.1 _ _, rfl⟩)
      | false =>
        rw [hk2] at h2 hgf hg
        simp only [cond_false, Bool.and_eq_true] at hgf h2 hg
        obtain ⟨⟨⟨⟨g1, g2⟩, g3⟩, g4⟩, g5⟩ := hgf
        rw [zfv_r g1]
        cases hk3 : (Nat.beq kind 3 && Nat.beq ct 0) with
        | true =>
          rw [hk3] at h2 g5
          simp only [cond_true, List.elem_eq_mem, decide_eq_true_eq] at g5 h2
          cases h2
          rw [Bool.and_eq_true] at hk3
          have hct : Nat.beq ct 1 = false := zbeqF (by have := Nat.eq_of_beq_eq_true hk3.2; omega)
          have ht := hsl hct
          obtain ⟨f1, f2⟩ := hR.2.2.2.2.2.2.1 a ho.1 ho.2.1 (by omega) (k, off, t) (by rw [ht]; exact g5)
          have f1 : gR h a (Int.ofNat k) = a + off := f1
          rw [f1]
          exact zk0 K (F.pop.push (v := .inr (.inl (a + off, t))) ⟨Or.inr ⟨zpermb_ok g2, f2⟩, rfl⟩)
        | false =>
          rw [hk3] at h2 hg
          simp only [cond_false] at h2 hg
          cases h2
          exact zk0 K (F.pop.push (v := .inr (.inl (gR h a (Int.ofNat k), t))) ⟨Or.inr ⟨zpermb_ok g2, (zg_app.mp hg).2.1⟩, rfl⟩)
    · cases h2
  · cases hs
theorem zfin_mem {a : Nat} {l1 : List (Nat × Nat × Nat)} (hg : zg (zfin a h l1) True) : ∀ q ∈ l1, gR h a (Int.ofNat q.1) = a + q.2.1 ∧ zty q.2.2 (a + q.2.1) h := by
  induction l1 with
  | nil => exact fun q hq => absurd hq List.not_mem_nil
  | cons x r ih =>
    intro q hq
    rcases List.mem_cons.mp hq with rfl | hq
    · exact ⟨hg.1, hg.2.1⟩
    · exact ih hg.2.2 q hq
set_option maxHeartbeats 1000000 in
theorem zJ_iaload (C : zctx y p R s m args meth c) (F : zfrm b base D s y ls st h H locs lsr) {len : Nat} {ops : List Nat} (hd : decode (zB y) pc = .ok (.iaload, len)) (hs : zsta y pc (.iaload) len ops = true) {wf : Bool} {brs : List (Prop × Nat)} {d : Nat} (h2 : (zstp (.iaload) ops pc len ls st h).2 = some (.inl (wf, brs, d, ls1, st1, h1))) (hg : zg (zstp (.iaload) ops pc len ls st h).1 True)
    (hroom : cells + (nx h1 - nx h) ≤ R.cells ∧ slots + (sc h1 - sc h) ≤ R.slots) (hcs : cells ≤ R.cells ∧ slots ≤ R.slots)
    (K : ∀ H1 locs1 lsr1, zfrm b base D s y ls1 st1 h1 H1 locs1 lsr1 → W p l e R s m args below meth c H1 locs1 (cells + (nx h1 - nx h)) (slots + (sc h1 - sc h)) Q (F0 m (zch brs d) lsr1 (st1.map (zrv b base)))) : W p l e R s m args below meth c H locs cells slots Q (F0 m pc lsr (st.map (zrv b base))) := by
  simp only [zsta, Bool.and_eq_true, Bool.or_eq_true, decide_eq_true_eq] at hs
  obtain ⟨hl, hs⟩ := hs
  obtain rfl : len = 1 := Nat.eq_of_beq_eq_true hl
  dsimp only [zstp, zald] at h2 hg
  split at h2
  · rename_i i1 a ta r1
    cases h2
    obtain ⟨hg1, hg2⟩ := zg_app.mp hg
    obtain ⟨i0, iN, -⟩ := hg2
    have hR := F.1
    have hi : inR i1 := F.top.1
    have hv : zok h (.inr (.inl (a, ta))) := F.pop.top.1
    show W p l e R s m args below meth c H locs cells slots Q (F0 m pc lsr (.int (Int32.ofInt i1) :: va_rf (zro b base a) :: r1.map (zrv b base)))
    have k := zk0 K (F.pop.pop.push (v := .inl (gI h a i1)) ⟨hR.2.2.2.2.2.1 _ _, rfl⟩)
    rcases hs with rfl | rfl
    · obtain ⟨a1, a2, a3, a4⟩ := zarr_ok (tag := 40) (by omega) (by omega) hv hg1
      have iN : i1 < zlen (zarrT 40 ta) a h := iN
      rw [a4] at iN
      have hlt : i1.toNat < ln h a := by simp only [Int.ofNat_eq_natCast] at iN; omega
      obtain ⟨cA, c1, c2⟩ := zarrI (ty := .int) hR a1 a2 (by rw [a3]; rfl)
      rw [zref_nz a1]
      refine W.iald (v := .int (Int32.ofInt (gI h a i1))) C.1 C.2.1 c2 (c1 _ _) (fun q => by cases q) (by rw [arrV_size]; exact z_idx hi i0 iN) ?_ rfl rfl hd k
      rw [z_clamp hi, arrV_read _ _ hlt, a3, z_toNat i0]
      rfl
    · have ea := zscr_ok hv hg1
      subst ea
      obtain ⟨scr, s1, s2, s3, s4, s5⟩ := hR.2.2.2.2.1
      have ez : zarrT 47 ta = 147 := rfl
      have iN2 : i1 < zlen (zarrT 47 ta) 1 h := iN
      rw [ez] at iN2
      have iN : i1 < Int.ofNat (ln h 1) := iN2
      have hlt : i1.toNat < ln h 1 := by simp only [Int.ofNat_eq_natCast] at iN; omega
      refine W.iald (v := .int (Int32.ofInt (gI h 1 i1))) C.1 C.2.1 s1 s2 s3 (by rw [s4]; exact z_idx hi i0 iN) ?_ rfl rfl hd k
      have s6 := s5 _ hlt
      simp only [z_toNat i0] at s6
      rw [z_clamp hi]
      exact s6
  · cases h2
set_option maxHeartbeats 1000000 in
theorem zJ_baload (C : zctx y p R s m args meth c) (F : zfrm b base D s y ls st h H locs lsr) {len : Nat} {ops : List Nat} (hd : decode (zB y) pc = .ok (.baload, len)) (hs : zsta y pc (.baload) len ops = true) {wf : Bool} {brs : List (Prop × Nat)} {d : Nat} (h2 : (zstp (.baload) ops pc len ls st h).2 = some (.inl (wf, brs, d, ls1, st1, h1))) (hg : zg (zstp (.baload) ops pc len ls st h).1 True)
    (hroom : cells + (nx h1 - nx h) ≤ R.cells ∧ slots + (sc h1 - sc h) ≤ R.slots) (hcs : cells ≤ R.cells ∧ slots ≤ R.slots)
    (K : ∀ H1 locs1 lsr1, zfrm b base D s y ls1 st1 h1 H1 locs1 lsr1 → W p l e R s m args below meth c H1 locs1 (cells + (nx h1 - nx h)) (slots + (sc h1 - sc h)) Q (F0 m (zch brs d) lsr1 (st1.map (zrv b base)))) : W p l e R s m args below meth c H locs cells slots Q (F0 m pc lsr (st.map (zrv b base))) := by
  simp only [zsta, Bool.and_eq_true, Bool.or_eq_true, decide_eq_true_eq] at hs
  obtain ⟨hl, hs⟩ := hs
  obtain rfl : len = 1 := Nat.eq_of_beq_eq_true hl
  dsimp only [zstp, zald] at h2 hg
  split at h2
  · rename_i i1 a ta r1
    cases h2
    obtain ⟨hg1, hg2⟩ := zg_app.mp hg
    obtain ⟨i0, iN, -⟩ := hg2
    have hR := F.1
    have hi : inR i1 := F.top.1
    have hv : zok h (.inr (.inl (a, ta))) := F.pop.top.1
    show W p l e R s m args below meth c H locs cells slots Q (F0 m pc lsr (.int (Int32.ofInt i1) :: va_rf (zro b base a) :: r1.map (zrv b base)))
    have k := zk0 K (F.pop.pop.push (v := .inl (gI h a i1)) ⟨hR.2.2.2.2.2.1 _ _, rfl⟩)
    rcases hs with rfl | rfl
    · obtain ⟨a1, a2, a3, a4⟩ := zarr_ok (tag := 41) (by omega) (by omega) hv hg1
      have iN : i1 < zlen (zarrT 41 ta) a h := iN
      rw [a4] at iN
      have hlt : i1.toNat < ln h a := by simp only [Int.ofNat_eq_natCast] at iN; omega
      obtain ⟨cA, c1, c2⟩ := zarrI (ty := .boolean) hR a1 a2 (by rw [a3]; rfl)
      rw [zref_nz a1]
      refine W.zald (v := .int (Int32.ofInt (gI h a i1))) C.1 C.2.1 c2 (c1 _ _) (fun q => by cases q) (by rw [arrV_size]; exact z_idx hi i0 iN) ?_ rfl rfl hd k
      rw [z_clamp hi, arrV_read _ _ hlt, a3, z_toNat i0]
      rfl
    · obtain ⟨a1, a2, a3, a4⟩ := zarr_ok (tag := 42) (by omega) (by omega) hv hg1
      have iN : i1 < zlen (zarrT 42 ta) a h := iN
      rw [a4] at iN
      have hlt : i1.toNat < ln h a := by simp only [Int.ofNat_eq_natCast] at iN; omega
      obtain ⟨cA, c1, c2⟩ := zarrI (ty := .byte) hR a1 a2 (by rw [a3]; rfl)
      rw [zref_nz a1]
      refine W.bald (v := .int (Int32.ofInt (gI h a i1))) C.1 C.2.1 c2 (c1 _ _) (fun q => by cases q) (by rw [arrV_size]; exact z_idx hi i0 iN) ?_ rfl rfl hd k
      rw [z_clamp hi, arrV_read _ _ hlt, a3, z_toNat i0]
      rfl
  · cases h2
set_option maxHeartbeats 1000000 in
theorem zJ_arraylength (C : zctx y p R s m args meth c) (F : zfrm b base D s y ls st h H locs lsr) {len : Nat} {ops : List Nat} (hd : decode (zB y) pc = .ok (.arraylength, len)) (hs : zsta y pc (.arraylength) len ops = true) {wf : Bool} {brs : List (Prop × Nat)} {d : Nat} (h2 : (zstp (.arraylength) ops pc len ls st h).2 = some (.inl (wf, brs, d, ls1, st1, h1))) (hg : zg (zstp (.arraylength) ops pc len ls st h).1 True)
    (hroom : cells + (nx h1 - nx h) ≤ R.cells ∧ slots + (sc h1 - sc h) ≤ R.slots) (hcs : cells ≤ R.cells ∧ slots ≤ R.slots) (hlen : ln h 1 < 2 ^ 31)
    (K : ∀ H1 locs1 lsr1, zfrm b base D s y ls1 st1 h1 H1 locs1 lsr1 → W p l e R s m args below meth c H1 locs1 (cells + (nx h1 - nx h)) (slots + (sc h1 - sc h)) Q (F0 m (zch brs d) lsr1 (st1.map (zrv b base)))) : W p l e R s m args below meth c H locs cells slots Q (F0 m pc lsr (st.map (zrv b base))) := by
  simp only [zsta, Bool.and_eq_true, decide_eq_true_eq] at hs
  obtain ⟨hl, rfl⟩ := hs
  obtain rfl : len = 1 := Nat.eq_of_beq_eq_true hl
  dsimp only [zstp] at h2 hg
  split at h2
  · rename_i a ta r1
    cases h2
    have hR := F.1
    have hv : zok h (.inr (.inl (a, ta))) := F.top.1
    have ea := zscr_ok hv hg
    subst ea
    obtain ⟨scr, s1, s2, s3, s4, s5⟩ := hR.2.2.2.2.1
    have hsz : ln h 1 < 2 ^ 31 := hlen
    show W p l e R s m args below meth c H locs cells slots Q (F0 m pc lsr (.ref b :: r1.map (zrv b base)))
    have k := zk0 K (F.pop.push (v := .inl (Int.ofNat (ln h 1))) ⟨by show inR _; unfold inR; simp only [Int.ofNat_eq_natCast]; omega, rfl⟩)
    exact W.alen (n := Int32.ofInt (Int.ofNat (ln h 1))) C.1 C.2.1 s1 s2 (by rw [s4]; exact Int32.ofInt_eq_ofNat.symm) rfl rfl hd k
  · cases h2
set_option maxHeartbeats 1000000 in
theorem zJ_aaload (C : zctx y p R s m args meth c) (F : zfrm b base D s y ls st h H locs lsr) {len : Nat} {ops : List Nat} (hd : decode (zB y) pc = .ok (.aaload, len)) (hs : zsta y pc (.aaload) len ops = true) {wf : Bool} {brs : List (Prop × Nat)} {d : Nat} (h2 : (zstp (.aaload) ops pc len ls st h).2 = some (.inl (wf, brs, d, ls1, st1, h1))) (hg : zg (zstp (.aaload) ops pc len ls st h).1 True)
    (hroom : cells + (nx h1 - nx h) ≤ R.cells ∧ slots + (sc h1 - sc h) ≤ R.slots) (hcs : cells ≤ R.cells ∧ slots ≤ R.slots)
    (K : ∀ H1 locs1 lsr1, zfrm b base D s y ls1 st1 h1 H1 locs1 lsr1 → W p l e R s m args below meth c H1 locs1 (cells + (nx h1 - nx h)) (slots + (sc h1 - sc h)) Q (F0 m (zch brs d) lsr1 (st1.map (zrv b base)))) : W p l e R s m args below meth c H locs cells slots Q (F0 m pc lsr (st.map (zrv b base))) := by
  simp only [zsta, Bool.and_eq_true] at hs
  obtain ⟨hl, hs⟩ := hs
  obtain rfl : len = 1 := Nat.eq_of_beq_eq_true hl
  split at hs
  · rename_i tag te
    rw [Bool.and_eq_true] at hs
    obtain ⟨hs1, hs2⟩ := hs
    have htag := zacm_ok hs1
    obtain ⟨C1, hC1⟩ : ∃ C1, zaO tag = some C1 := by
      rcases htag with rfl | rfl | rfl <;> exact ⟨_, rfl⟩
    dsimp only [zstp, zaald] at h2 hg
    split at h2
    · rename_i i1 a ta r1
      cases h2
      obtain ⟨hg1, hg2⟩ := zg_app.mp hg
      obtain ⟨i0, iN, hg3⟩ := hg2
      have hR := F.1
      have hi : inR i1 := F.top.1
      have hv : zok h (.inr (.inl (a, ta))) := F.pop.top.1
      show W p l e R s m args below meth c H locs cells slots Q (F0 m pc lsr (.int (Int32.ofInt i1) :: va_rf (zro b base a) :: r1.map (zrv b base)))
      have hok : zok h (.inr (.inl (gR h a i1, te))) := by
        show te = 0 ∨ _
        revert hg3
        show zg (bif Nat.beq te 0 then [] else [zty te (gR h a i1) h]) True → _
        cases hte : Nat.beq te 0 with
        | true => exact fun _ => Or.inl (Nat.eq_of_beq_eq_true hte)
        | false => exact fun z => Or.inr ⟨zpermb_ok hs2, z.1⟩
      have k := zk0 K (F.pop.pop.push (v := .inr (.inl (gR h a i1, te))) ⟨hok, rfl⟩)
      obtain ⟨a1, a2, a3, a4⟩ := zarr_ok (tag := tag) (by omega) (by omega) hv hg1
      have iN : i1 < zlen (zarrT tag ta) a h := iN
      rw [a4] at iN
      have hlt : i1.toNat < ln h a := by simp only [Int.ofNat_eq_natCast] at iN; omega
      obtain ⟨cA, c1, c2, c3⟩ := zarrO hR a1 a2 (by rw [a3]; exact hC1)
      rw [zref_nz a1]
      refine W.aald (v := va_rf (zro b base (gR h a i1))) C.1 C.2.1 c3 (c1 _ _) rfl (fun q => by cases q) (by rw [arrV_size]; exact z_idx hi i0 iN) ?_ rfl rfl hd k
      rw [z_clamp hi, arrV_read _ _ hlt, z_toNat i0]
    · cases h2
  · cases hs
theorem zmem_app {α : Type} {P : α → Prop} {l1 : List α} {x : α} (h1 : ∀ q ∈ l1, P q) (h2 : P x) : ∀ q ∈ l1 ++ [x], P q := fun q hq => (List.mem_append.mp hq).elim (h1 q) (fun z => by rw [List.mem_singleton.mp z]; exact h2)
/-- the frame behind a write that changes one cell -/
theorem zfrm.wr {H1 : Heap} {locs1 : List Loc} (F : zfrm b base D s y ls st h H locs lsr) (hR : zRel b base D s h1 H1) (hle : zle h h1) (hl : ∀ q ∈ locs1, base ≤ q.base) (hs : ∀ v ∈ st1, v ∈ st) : zfrm b base D s y ls st1 h1 H1 locs1 lsr :=
  ⟨hR, hl, F.2.2.1, F.2.2.2.1, fun v hv => zok_mono hle (F.2.2.2.2.1 v hv), fun v hv => ⟨zok_mono hle (F.2.2.2.2.2.1 v (hs v hv)).1, (F.2.2.2.2.2.1 v (hs v hv)).2⟩, F.2.2.2.2.2.2⟩
theorem zty_sI {t x a : Nat} {k v : Int} : zty t x (sI h a k v) = zty t x h := rfl
theorem zty_sR {t x a : Nat} {k : Int} {v : Nat} : zty t x (sR h a k v) = zty t x h := rfl
theorem zle_sI {a : Nat} {k v : Int} : zle h (sI h a k v) := ⟨Nat.le_refl _, Nat.le_refl _, fun _ _ => ⟨rfl, fun _ => rfl⟩⟩
theorem zle_sR {a : Nat} {k : Int} {v : Nat} : zle h (sR h a k v) := ⟨Nat.le_refl _, Nat.le_refl _, fun _ _ => ⟨rfl, fun _ => rfl⟩⟩
theorem gI_sI {a a1 : Nat} {k k1 v : Int} : gI (sI h a k v) a1 k1 = if a1 = a ∧ k1 = k then v else gI h a1 k1 := rfl
theorem gR_sR {a a1 : Nat} {k k1 : Int} {v : Nat} : gR (sR h a k v) a1 k1 = if a1 = a ∧ k1 = k then v else gR h a1 k1 := rfl
/-- one int of one cell -/
theorem zRel.wI {H1 : Heap} {a : Nat} {k v : Int} (hR : zRel b base D s h H) (ha : 2 ≤ a) (ha2 : a < nx h) (hv : inR v) (hsz : H1.size = H.size) (hoth : ∀ q, q ≠ zra b base a → H1[q]? = H[q]?) (hcell : zcR b base D s (sI h a k v) a H1) : zRel b base D s (sI h a k v) H1 :=
  (zRel.set (h1 := sI h a k v) hR ha ha2 rfl hsz hoth (fun _ => rfl) (fun _ _ => rfl) (fun _ => rfl) (fun c j hc => by rw [gI_sI, if_neg (fun z => hc z.1)]) (fun _ _ _ => rfl) (fun j => by
    rw [gI_sI]
    split
    · exact hv
    · exact hR.2.2.2.2.2.1 a j) hcell (fun ht q hq => hR.2.2.2.2.2.2.1 a ha ha2 ht q hq) zlay_perm).1
theorem zRel.wR {H1 : Heap} {a : Nat} {k : Int} {v : Nat} (hR : zRel b base D s h H) (ha : 2 ≤ a) (ha2 : a < nx h) (hsz : H1.size = H.size) (hoth : ∀ q, q ≠ zra b base a → H1[q]? = H[q]?) (hcell : zcR b base D s (sR h a k v) a H1) (hlay : tg h a < 20 → ∀ q ∈ zlay (tg h a), Int.ofNat q.1 ≠ k) : zRel b base D s (sR h a k v) H1 :=
  (zRel.set (h1 := sR h a k v) hR ha ha2 rfl hsz hoth (fun _ => rfl) (fun _ _ => rfl) (fun _ => rfl) (fun _ _ _ => rfl) (fun c j hc => by rw [gR_sR, if_neg (fun z => hc z.1)]) (fun j => hR.2.2.2.2.2.1 a j) hcell (fun ht q hq => by
    have z := hR.2.2.2.2.2.2.1 a ha ha2 ht q hq
    refine ⟨?_, z.2⟩
    rw [gR_sR, if_neg (fun w => hlay ht q hq w.2)]
    exact z.1) zlay_perm).1
/-- the cell of an object, from its picture -/
theorem zcR_obj {H1 : Heap} {ci a : Nat} (hc : ci < 12) (ht : tg h1 a = ci ∨ tg h1 a = 20 + ci) (ho : t_OB (zra b base a) (D.1 ci) (zcr ci).2.2 (D.2 ci) H1 (zfv b base h1 a ci)) : zcR b base D s h1 a H1 := by
  have e1 : tg h1 a % 20 = ci := by rcases ht with ht | ht <;> omega
  have e2 : tg h1 a < 40 := by rcases ht with ht | ht <;> omega
  refine ⟨fun _ => ?_, fun ty hty => ?_, fun C1 hC => ?_⟩
  · rw [e1]; exact ⟨_, zcr_at hc, ho⟩
  · exfalso
    revert hty
    unfold zaI
    split
    · omega
    · omega
    · omega
    · omega
    · exact fun z => by cases z
  · exfalso
    revert hC
    unfold zaO
    split
    · omega
    · omega
    · omega
    · exact fun z => by cases z
set_option maxHeartbeats 1000000 in
theorem zJ_putfield {i : Nat} (C : zctx y p R s m args meth c) (F : zfrm b base D s y ls st h H locs lsr) {len : Nat} {ops : List Nat} (hd : decode (zB y) pc = .ok (.putfield i, len)) (hs : zsta y pc (.putfield i) len ops = true) {wf : Bool} {brs : List (Prop × Nat)} {d : Nat} (h2 : (zstp (.putfield i) ops pc len ls st h).2 = some (.inl (wf, brs, d, ls1, st1, h1))) (hg : zg (zstp (.putfield i) ops pc len ls st h).1 True)
    (hroom : cells + (nx h1 - nx h) ≤ R.cells ∧ slots + (sc h1 - sc h) ≤ R.slots) (hcs : cells ≤ R.cells ∧ slots ≤ R.slots)
    (K : ∀ H1 locs1 lsr1, zfrm b base D s y ls1 st1 h1 H1 locs1 lsr1 → W p l e R s m args below meth c H1 locs1 (cells + (nx h1 - nx h)) (slots + (sc h1 - sc h)) Q (F0 m (zch brs d) lsr1 (st1.map (zrv b base)))) : W p l e R s m args below meth c H locs cells slots Q (F0 m pc lsr (st.map (zrv b base))) := by
  simp only [zsta, Bool.and_eq_true] at hs
  obtain ⟨hl, hs⟩ := hs
  obtain rfl : len = 3 := Nat.eq_of_beq_eq_true hl
  split at hs
  · rename_i ci k kind ct sl
    simp only [Bool.and_eq_true, List.elem_eq_mem, decide_eq_true_eq] at hs
    obtain ⟨hq, hpf⟩ := hs
    obtain ⟨hc, hk⟩ := zFL_b hq
    have hc : ci < 12 := hc
    unfold zpf at hpf
    simp only [Bool.and_eq_true] at hpf
    obtain ⟨⟨p1, p2⟩, p3⟩ := hpf
    dsimp only [zstp, zputf] at h2 hg
    split at h2
    · rename_i c0 k0 kind0 ct0 sl0 v0 a ta r1 heq
      cases heq
      dsimp only at hg
      have hR := F.1
      have hv : zok h (.inr (.inl (a, ta))) := F.pop.top.1
      have hfin : ((zcr ci).2.1 k).2.2.2 = true → zow y = ci ∧ (zNm y).name = "<init>" := by
        intro z
        rw [z] at p2
        simp only [cond_true, Bool.and_eq_true, decide_eq_true_eq] at p2
        exact ⟨Nat.eq_of_beq_eq_true p2.1.2, p2.2⟩
      have hgu : zg (bif Nat.beq ta (100 + ci) && Nat.beq ct 0 then [] else bif Nat.beq ta 0 then [zty (bif Nat.beq ct 1 then 120 + ci else 100 + ci) a h] else [False]) True → zobj ci a h ∧ (Nat.beq ct 1 = true → tg h a = 20 + ci) ∧ (tg h a < 20 → tg h a = ci) := by
        intro z
        cases h1 : (Nat.beq ta (100 + ci) && Nat.beq ct 0) with
        | true =>
          rw [Bool.and_eq_true] at h1
          have e1 : ta = 100 + ci := Nat.eq_of_beq_eq_true h1.1
          rcases hv with hv | ⟨-, hv⟩
          · have hv : ta = 0 := hv
            omega
          · have hv : zty ta a h := hv
            rw [e1] at hv
            obtain ⟨r1, r2, r3⟩ := zty_obj hc hv
            exact ⟨⟨r1, r2, Or.inl r3⟩, (fun w => by rw [Nat.eq_of_beq_eq_true h1.2] at w; cases w), fun _ => r3⟩
        | false =>
          rw [h1] at z
          simp only [cond_false] at z
          cases h2 : Nat.beq ta 0 with
          | false => rw [h2] at z; exact z.1.elim
          | true =>
            rw [h2] at z
            simp only [cond_true] at z
            cases h3 : Nat.beq ct 1 with
            | true =>
              rw [h3] at z
              obtain ⟨r1, r2, r3⟩ := zty_raw hc z.1
              exact ⟨⟨r1, r2, Or.inr r3⟩, (fun _ => r3), (fun w => by omega)⟩
            | false =>
              rw [h3] at z
              obtain ⟨r1, r2, r3⟩ := zty_obj hc z.1
              exact ⟨⟨r1, r2, Or.inl r3⟩, (fun w => by cases w), fun _ => r3⟩
      split at h2
      · rename_i x1
        have int_case : zobj ci a h → (zfty ci k = .int ∨ zfty ci k = .boolean) → narrow (zfty ci k) (.int (Int32.ofInt x1)) = .int (Int32.ofInt x1) → fits (zfty ci k) (.int (Int32.ofInt x1)) = true → (∀ H1 locs1 lsr1, zfrm b base D s y ls r1 (sI h a (Int.ofNat k) x1) H1 locs1 lsr1 → W p l e R s m args below meth c H1 locs1 cells slots Q (F0 m (pc + 3) lsr1 (r1.map (zrv b base)))) → W p l e R s m args below meth c H locs cells slots Q (F0 m pc lsr ((.inl x1 :: .inr (.inl (a, ta)) :: r1 : List zV).map (zrv b base))) := by
          intro ho hty n1 n2 K1
          show W p l e R s m args below meth c H locs cells slots Q (F0 m pc lsr (.int (Int32.ofInt x1) :: va_rf (zro b base a) :: r1.map (zrv b base)))
          rw [zref_nz ho.1]
          refine zputW C hR hq ho n1 n2 hfin hd (fun H1 locs1 e1 e2 e3 e4 => K1 H1 locs1 lsr ?_)
          have hcell : zcR b base D s (sI h a (Int.ofNat k) x1) a H1 := zcR_obj hc ho.2.2 (e3.to (fun j _ => (zfv_sI hty j).symm))
          exact F.wr (hR.wI ho.1 ho.2.1 F.top.1 e1 e2 hcell) zle_sI (e4 F.2.1) (fun v hv => List.mem_cons_of_mem _ (List.mem_cons_of_mem _ hv))
        cases hk0 : Nat.beq kind 0 with
        | true =>
          rw [hk0] at h2 hg p1
          simp only [cond_true, decide_eq_true_eq] at h2 hg p1
          cases h2
          have K1 := K
          simp only [show nx (sI h a (Int.ofNat k) x1) = nx h from rfl, show sc (sI h a (Int.ofNat k) x1) = sc h from rfl, Nat.sub_self, Nat.add_zero] at K1
          exact int_case (hgu hg).1 (Or.inl p1) (by rw [p1]; exact (znar_i _).1) (by rw [p1]; rfl) K1
        | false =>
          rw [hk0] at h2 hg p1
          simp only [cond_false] at h2 hg p1
          cases hk1 : Nat.beq kind 1 with
          | false => rw [hk1] at h2; cases h2
          | true =>
            rw [hk1] at h2 hg p1
            simp only [cond_true, decide_eq_true_eq] at h2 hg p1
            cases h2
            obtain ⟨hg1, hg2⟩ := zg_app.mp hg
            have K1 := K
            simp only [show nx (sI h a (Int.ofNat k) x1) = nx h from rfl, show sc (sI h a (Int.ofNat k) x1) = sc h from rfl, Nat.sub_self, Nat.add_zero] at K1
            exact int_case (hgu hg1).1 (Or.inr p1) (by rw [p1]; exact (znar_z hg2.1).1) (by rw [p1]; exact (znar_z hg2.1).2) K1
      · rename_i x1 tx
        cases hk0 : Nat.blt kind 2 with
        | true => rw [hk0] at h2; cases h2
        | false =>
          rw [hk0] at h2 hg
          simp only [cond_false] at h2 hg
          have hk2 : ¬ kind < 2 := by rw [← Nat.blt_eq, hk0]; decide
          rw [zbeqF (show kind ≠ 0 by omega), zbeqF (show kind ≠ 1 by omega)] at p1
          simp only [cond_false] at p1
          have hn := znar_r p1 (zro b base x1)
          have ref_case : ∀ (h1 : zH), zobj ci a h → (∀ H1, H1.size = H.size → (∀ q, q ≠ zra b base a → H1[q]? = H[q]?) → t_OB (zra b base a) (D.1 ci) (zcr ci).2.2 (D.2 ci) H1 (updV (zfv b base h a ci) k (va_rf (zro b base x1))) → zRel b base D s h1 H1) → zle h h1 → (∀ H1 locs1 lsr1, zfrm b base D s y ls r1 h1 H1 locs1 lsr1 → W p l e R s m args below meth c H1 locs1 cells slots Q (F0 m (pc + 3) lsr1 (r1.map (zrv b base)))) → W p l e R s m args below meth c H locs cells slots Q (F0 m pc lsr ((.inr (.inl (x1, tx)) :: .inr (.inl (a, ta)) :: r1 : List zV).map (zrv b base))) := by
            intro h1 ho hrel hle K1
            show W p l e R s m args below meth c H locs cells slots Q (F0 m pc lsr (va_rf (zro b base x1) :: va_rf (zro b base a) :: r1.map (zrv b base)))
            rw [zref_nz ho.1]
            refine zputW C hR hq ho hn.1 hn.2 hfin hd (fun H1 locs1 e1 e2 e3 e4 => K1 H1 locs1 lsr ?_)
            exact F.wr (hrel H1 e1 e2 e3) hle (e4 F.2.1) (fun v hv => List.mem_cons_of_mem _ (List.mem_cons_of_mem _ hv))
          have hlay : zobj ci a h → (tg h a < 20 → tg h a = ci) → (Nat.beq ct 1 = true → tg h a = 20 + ci) → tg h a < 20 → ∀ q ∈ zlay (tg h a), Int.ofNat q.1 ≠ Int.ofNat k := by
            intro ho i1 i2 i3 q hq2 hqk
            cases hF : ((zcr ci).2.1 k).2.2.2 with
            | true =>
              rw [hF] at p2
              simp only [cond_true, Bool.and_eq_true] at p2
              have := i2 p2.1.1
              omega
            | false =>
              rw [hF] at p2
              simp only [cond_false, List.all_eq_true] at p2
              rw [i1 i3] at hq2
              have z := p2 q hq2
              rw [Int.ofNat.inj hqk] at z
              simp at z
          cases hsl : Nat.beq sl 1 with
          | false =>
            rw [hsl] at h2 hg
            simp only [cond_false] at h2 hg
            cases h2
            obtain ⟨ho, i2, i1⟩ := hgu hg
            have K1 := K
            simp only [show nx (sR h a (Int.ofNat k) x1) = nx h from rfl, show sc (sR h a (Int.ofNat k) x1) = sc h from rfl, Nat.sub_self, Nat.add_zero] at K1
            exact ref_case _ ho (fun H1 e1 e2 e3 => hR.wR ho.1 ho.2.1 e1 e2 (zcR_obj hc ho.2.2 (e3.to (fun j _ => (zfv_sR p1 j).symm))) (hlay ho i1 i2)) zle_sR K1
          | true =>
            rw [hsl] at h2 hg p3
            simp only [cond_true, Bool.and_eq_true] at h2 hg p3
            cases h2
            obtain ⟨hg1, hg2⟩ := zg_app.mp hg
            obtain ⟨ho, i2, i1⟩ := hgu hg1
            have hraw := i2 p3.1
            have K1 := K
            simp only [show nx (sT (sR h a (Int.ofNat k) x1) a ci) = nx h from rfl, show sc (sT (sR h a (Int.ofNat k) x1) a ci) = sc h from rfl, Nat.sub_self, Nat.add_zero] at K1
            have hle : zle h (sT (sR h a (Int.ofNat k) x1) a ci) := ⟨Nat.le_refl _, Nat.le_refl _, fun q _ => ⟨rfl, fun z => by
              show (if q = a then ci else tg h q) = tg h q
              rw [if_neg]
              intro e
              rw [e, hraw] at z
              omega⟩⟩
            refine ref_case _ ho (fun H1 e1 e2 e3 => ?_) hle K1
            have R1 : zRel b base D s (sR h a (Int.ofNat k) x1) H1 := hR.wR ho.1 ho.2.1 e1 e2 (zcR_obj hc ho.2.2 (e3.to (fun j _ => (zfv_sR p1 j).symm))) (fun z => by omega)
            have hta : tg (sT (sR h a (Int.ofNat k) x1) a ci) a = ci := by show (if a = a then ci else _) = ci; rw [if_pos rfl]
            have hfv : ∀ j, zfv b base (sT (sR h a (Int.ofNat k) x1) a ci) a ci j = zfv b base (sR h a (Int.ofNat k) x1) a ci j := fun _ => rfl
            refine (zRel.set (h1 := sT (sR h a (Int.ofNat k) x1) a ci) R1 ho.1 ho.2.1 rfl rfl (fun _ _ => rfl) (fun _ => rfl) (fun q hq => if_neg hq) (fun z => ?_) (fun _ _ _ => rfl) (fun _ _ _ => rfl) (fun j => hR.2.2.2.2.2.1 a j) (zcR_obj hc (Or.inl hta) (e3.to (fun j _ => ((hfv j).trans (zfv_sR p1 j)).symm))) (fun _ q hq => ?_) zlay_perm).1
            · exfalso
              have : tg (sR h a (Int.ofNat k) x1) a = 20 + ci := hraw
              omega
            · rw [hta] at hq
              obtain ⟨f1, f2⟩ := zfin_mem hg2 q hq
              refine ⟨f1, ?_⟩
              have hpm := zlay_perm _ q hq
              unfold zty at f2 ⊢
              cases hb : Nat.beq q.2.2 147 with
              | true => rw [hb] at f2; exact f2
              | false =>
                rw [hb] at f2
                obtain ⟨w1, w2, w3, w4⟩ := f2
                refine ⟨w1, w2, ?_, w4⟩
                show (if a + q.2.1 = a then ci else tg h (a + q.2.1)) = _
                have w3 : tg h (a + q.2.1) = q.2.2 % 100 := w3
                rw [if_neg, w3]
                intro e
                rw [e, hraw] at w3
                unfold zperm at hpm
                omega
      · cases h2
    · cases h2
  · cases hs
end ZG
