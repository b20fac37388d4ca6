/-! Every jump; what only grows. -/
section ZJ2
variable {p : Program} {l : Launch} {e : Env} {R : Room} {s : State} {m : MethodId} {args : Array Value} {below : List Frame} {meth : Method} {c : Code} {H : Heap} {locs : List Loc} {cells slots : Nat} {Q : State → Prop}
variable {b base : Nat} {D : va_G} {y pc : Nat} {ls st st1 ls1 r : List zV} {h h1 : zH} {lsr lsr1 : Array Slot} {v v1 v2 v3 v4 : zV}
theorem zML_b {o : Nat} {q : Nat × Nat × Nat} (hq : q ∈ zML o) : zMLb o q = true := by
  have ho : o < 14 := by
    rcases Nat.lt_or_ge o 14 with z | z
    · exact z
    · obtain ⟨k, rfl⟩ : ∃ k, o = k + 14 := ⟨o - 14, by omega⟩
      exact absurd hq List.not_mem_nil
  exact List.all_eq_true.mp (List.all_eq_true.mp zMLb_ok o (List.mem_range.mpr ho)) q hq
set_option maxRecDepth 100000 in
theorem zcal_lt : zcal.all (fun y => Nat.blt y 1000) = true := by decide +kernel
theorem zcal_l {y1 : Nat} (h1 : y1 ∈ zcal) : y1 < 1000 := by
  have := List.all_eq_true.mp zcal_lt y1 h1
  rw [Nat.blt_eq] at this
  exact this
theorem zinb_el {i kd y1 k : Nat} {es : List Nat} (hz : zinb y i kd (y1 :: k :: es) = true) : (i, y1, kd) ∈ zML (zow y) := by
  unfold zinb at hz
  rw [Bool.and_eq_true] at hz
  simpa using hz.1
theorem zrest_cat {rest vs : List zV} (hst : ∀ v ∈ vs ++ rest, zok h v ∧ zun v = false) (hc : Nat.ble (zcat rest) 8 = true) : ((rest.map (zrv b base)).map fun v => v.category).sum ≤ 8 := by
  rw [zcat_ok rest (fun v hv => (hst v (List.mem_append_right _ hv)).2)]
  exact Nat.le_of_ble_eq_true hc
set_option maxHeartbeats 1000000 in
theorem zJ_invokespecial {i : Nat} (C : zctx y p R s m args meth c) (F : zfrm b base D s y ls st h H locs lsr) {len : Nat} {ops : List Nat} (hd : decode (zB y) pc = .ok (.invokespecial i, len)) (hs : zsta y pc (.invokespecial i) len ops = true) {wf : Bool} {brs : List (Prop × Nat)} {d : Nat} (h2 : (zstp (.invokespecial i) ops pc len ls st h).2 = some (.inl (wf, brs, d, ls1, st1, h1))) (hg : zg (zstp (.invokespecial i) ops pc len ls st h).1 True)
    (hroom : cells + (nx h1 - nx h) ≤ R.cells ∧ slots + (sc h1 - sc h) ≤ R.slots) (hcs : cells ≤ R.cells ∧ slots ≤ R.slots)
    (K : ∀ H1 locs1 lsr1, zfrm b base D s y ls1 st1 h1 H1 locs1 lsr1 → W p l e R s m args below meth c H1 locs1 (cells + (nx h1 - nx h)) (slots + (sc h1 - sc h)) Q (F0 m (zch brs d) lsr1 (st1.map (zrv b base)))) : W p l e R s m args below meth c H locs cells slots Q (F0 m pc lsr (st.map (zrv b base))) := by
  simp only [zsta, Bool.and_eq_true, Bool.or_eq_true] at hs
  obtain ⟨hl, hs⟩ := hs
  obtain rfl : len = 3 := Nat.eq_of_beq_eq_true hl
  dsimp only [zstp] at h2 hg
  unfold zinv at h2 hg
  split at h2
  · rename_i y1 k es
    dsimp only at hg
    split at h2
    · cases h2
    · rename_i gs as1 rest hp
      rw [hp] at hg
      dsimp only at hg
      cases hcat : Nat.ble (zcat rest) 8 with
      | false => rw [hcat] at h2; cases h2
      | true =>
        rw [hcat] at h2 hg
        simp only [cond_true] at h2 hg
        have hcall : y1 < 1000 ∨ y1 = 9990 → False := by
          intro z
          rw [zbeqF (show y1 ≠ 9999 by omega), zbeqF (show y1 ≠ 9998 by omega), zbeqF (show y1 ≠ 9996 by omega), zbeqF (show y1 ≠ 9995 by omega)] at h2
          cases h2
        rcases hs with ((hs | hs) | hs) | hs
        · have := zML_b (zinb_el hs)
          simp only [zMLb, Bool.and_eq_true, List.elem_eq_mem, decide_eq_true_eq] at this
          exact (hcall (Or.inl (zcal_l this.1))).elim
        · have := zML_b (zinb_el hs)
          simp only [zMLb, Bool.and_eq_true, List.elem_eq_mem, decide_eq_true_eq] at this
          exact (hcall (Or.inl (zcal_l this.1.1))).elim
        · have hm := zinb_el hs
          have e1 : y1 = 9999 := Nat.eq_of_beq_eq_true (zML_b hm)
          subst e1
          simp only [zinb, Bool.and_eq_true, decide_eq_true_eq] at hs
          obtain ⟨-, ⟨rfl, hF⟩, hL⟩ := hs
          simp only [show Nat.beq 9999 9999 = true from rfl, cond_true] at h2 hg
          split at h2
          · rename_i a ta
            cases h2
            obtain ⟨hg1, hg2⟩ := zg_app.mp hg
            obtain ⟨vs, ws, p1, p2, p3, p4, p5, p6, p7⟩ := zpop_ok (b := b) (base := base) _ _ _ _ _ _ _ hp hg1
            have p3 : ws.length = 1 := p3
            have e2 : ws = [.inr (.inl (a, ta))] := by
              rw [List.append_nil] at p2
              have := congrArg List.reverse p2
              rw [List.reverse_reverse] at this
              exact this.symm
            subst e2
            subst p1
            have hst := F.2.2.2.2.2.1
            have hc8 := zrest_cat (b := b) (base := base) hst hcat
            rw [List.map_append, ← p4]
            have hts := C.2.2.2.2.2.1
            have ea : va_rf (zro b base a) = .ref (zra b base a) := by rw [zro_some hg2.1]; rfl
            show W p l e R s m args below meth c H locs cells slots Q (F0 m pc lsr (va_rf (zro b base a) :: st1.map (zrv b base)))
            rw [ea]
            refine W.objInit C.1 C.2.1 C.2.2.2.2.1 (hts _ (zML_w _ _ hm _ List.mem_cons_self)) (hts _ (zqS_in _ (by decide))) (hts _ (zqS_in _ (by decide))) rfl (by rw [C.2.2.2.1]; exact F.2.2.2.1.1) rfl hd ?_ ?_ (zk0 K (F.stk (fun v hv => hst v (List.mem_append_right _ hv))))
            · have := Nat.le_of_ble_eq_true hF
              have := C.2.2.2.2.2.2.2.2.2.1
              omega
            · have := Nat.le_of_ble_eq_true hL
              have := C.2.2.2.2.2.2.2.2.2.2
              show 2 * 0 + _ + 12 ≤ _
              omega
          · cases h2
        · exact (hcall (Or.inr (Nat.eq_of_beq_eq_true hs))).elim
  · cases h2
set_option maxHeartbeats 1000000 in
theorem zJ_invokevirtual {i : Nat} (C : zctx y p R s m args meth c) (F : zfrm b base D s y ls st h H locs lsr) {len : Nat} {ops : List Nat} (hd : decode (zB y) pc = .ok (.invokevirtual i, len)) (hs : zsta y pc (.invokevirtual i) len ops = true) {wf : Bool} {brs : List (Prop × Nat)} {d : Nat} (h2 : (zstp (.invokevirtual i) ops pc len ls st h).2 = some (.inl (wf, brs, d, ls1, st1, h1))) (hg : zg (zstp (.invokevirtual i) ops pc len ls st h).1 True)
    (hroom : cells + (nx h1 - nx h) ≤ R.cells ∧ slots + (sc h1 - sc h) ≤ R.slots) (hcs : cells ≤ R.cells ∧ slots ≤ R.slots)
    (K : ∀ H1 locs1 lsr1, zfrm b base D s y ls1 st1 h1 H1 locs1 lsr1 → W p l e R s m args below meth c H1 locs1 (cells + (nx h1 - nx h)) (slots + (sc h1 - sc h)) Q (F0 m (zch brs d) lsr1 (st1.map (zrv b base)))) : W p l e R s m args below meth c H locs cells slots Q (F0 m pc lsr (st.map (zrv b base))) := by
  simp only [zsta, Bool.and_eq_true] at hs
  obtain ⟨hl, hs⟩ := hs
  dsimp only [zstp] at h2 hg
  unfold zinv at h2 hg
  split at h2
  · rename_i y1 k es
    split at h2
    · cases h2
    · rename_i gs as1 rest hp
      cases hcat : Nat.ble (zcat rest) 8 with
      | false => rw [hcat] at h2; cases h2
      | true =>
        rw [hcat] at h2
        simp only [cond_true] at h2
        have hb := zML_b (zinb_el hs)
        simp only [zMLb, List.elem_eq_mem, decide_eq_true_eq] at hb
        have := zcal_l hb
        rw [zbeqF (show y1 ≠ 9999 by omega), zbeqF (show y1 ≠ 9998 by omega), zbeqF (show y1 ≠ 9996 by omega), zbeqF (show y1 ≠ 9995 by omega)] at h2
        cases h2
  · cases h2
set_option maxHeartbeats 1000000 in
theorem zJ_invokestatic {i : Nat} (C : zctx y p R s m args meth c) (F : zfrm b base D s y ls st h H locs lsr) {len : Nat} {ops : List Nat} (hd : decode (zB y) pc = .ok (.invokestatic i, len)) (hs : zsta y pc (.invokestatic i) len ops = true) {wf : Bool} {brs : List (Prop × Nat)} {d : Nat} (h2 : (zstp (.invokestatic i) ops pc len ls st h).2 = some (.inl (wf, brs, d, ls1, st1, h1))) (hg : zg (zstp (.invokestatic i) ops pc len ls st h).1 True)
    (hroom : cells + (nx h1 - nx h) ≤ R.cells ∧ slots + (sc h1 - sc h) ≤ R.slots) (hcs : cells ≤ R.cells ∧ slots ≤ R.slots)
    (K : ∀ H1 locs1 lsr1, zfrm b base D s y ls1 st1 h1 H1 locs1 lsr1 → W p l e R s m args below meth c H1 locs1 (cells + (nx h1 - nx h)) (slots + (sc h1 - sc h)) Q (F0 m (zch brs d) lsr1 (st1.map (zrv b base)))) : W p l e R s m args below meth c H locs cells slots Q (F0 m pc lsr (st.map (zrv b base))) := by
  simp only [zsta, Bool.and_eq_true, Bool.or_eq_true] at hs
  obtain ⟨hl, hs⟩ := hs
  obtain rfl : len = 3 := Nat.eq_of_beq_eq_true hl
  dsimp only [zstp] at h2 hg
  unfold zinv at h2 hg
  split at h2
  · rename_i y1 k es
    dsimp only at hg
    split at h2
    · cases h2
    · rename_i gs as1 rest hp
      rw [hp] at hg
      dsimp only at hg
      cases hcat : Nat.ble (zcat rest) 8 with
      | false => rw [hcat] at h2; cases h2
      | true =>
        rw [hcat] at h2 hg
        simp only [cond_true] at h2 hg
        have hcall : y1 < 1000 → False := by
          intro z
          rw [zbeqF (show y1 ≠ 9999 by omega), zbeqF (show y1 ≠ 9998 by omega), zbeqF (show y1 ≠ 9996 by omega), zbeqF (show y1 ≠ 9995 by omega)] at h2
          cases h2
        rcases hs with (((hs | hs) | hs) | hs) | hs
        · have := zML_b (zinb_el hs)
          simp only [zMLb, List.elem_eq_mem, decide_eq_true_eq] at this
          exact (hcall (zcal_l this)).elim
        · have := zML_b (zinb_el hs)
          simp only [zMLb, Bool.and_eq_true, List.elem_eq_mem, decide_eq_true_eq] at this
          exact (hcall (zcal_l this.1)).elim
        · have hm := zinb_el hs
          have e1 : y1 = 9998 := Nat.eq_of_beq_eq_true (zML_b hm)
          subst e1
          simp only [zinb, Bool.and_eq_true, decide_eq_true_eq] at hs
          obtain ⟨-, ⟨rfl, hF⟩, hL⟩ := hs
          simp only [show Nat.beq 9998 9999 = false from rfl, show Nat.beq 9998 9998 = true from rfl, cond_true, cond_false] at h2 hg
          split at h2
          · rename_i sA tA sp dA tD dp n
            cases h2
            obtain ⟨hg1, hg2⟩ := zg_app.mp hg
            obtain ⟨vs, ws, p1, p2, p3, p4, p5, p6, p7⟩ := zpop_ok (b := b) (base := base) _ _ _ _ _ _ _ hp hg1
            have e2 : ws = [.inl n, .inl dp, .inr (.inl (dA, tD)), .inl sp, .inr (.inl (sA, tA))] := by
              rw [List.append_nil] at p2
              have := congrArg List.reverse p2
              rw [List.reverse_reverse] at this
              exact this.symm
            subst e2
            subst p1
            have hst := F.2.2.2.2.2.1
            have hc8 := zrest_cat (b := b) (base := base) hst hcat
            have hok := p5 (fun v hv => hst v (List.mem_append_left _ hv)) (fun e1 he => by simp at he; rcases he with rfl | rfl | rfl | rfl | rfl <;> first | (left; omega) | (right; right; decide))
            have q1 := p7 2 140 _ rfl rfl
            have q2 := p7 4 140 _ rfl rfl
            obtain ⟨w1, hw1⟩ := q1.2.2.1 (by omega)
            obtain ⟨w2, hw2⟩ := q2.2.2.1 (by omega)
            cases hw1
            cases hw2
            have on : inR n := (hok (.inl n) (by simp)).1
            have odp : inR dp := (hok (.inl dp) (by simp)).1
            have osp : inR sp := (hok (.inl sp) (by simp)).1
            have od : zok h (.inr (.inl (dA, 140))) := (hok (.inr (.inl (dA, 140))) (by simp)).1
            have os : zok h (.inr (.inl (sA, 140))) := (hok (.inr (.inl (sA, 140))) (by simp)).1
            have od2 : zty 140 dA h := (od.resolve_left (fun z => by cases z)).2
            have os2 : zty 140 sA h := (os.resolve_left (fun z => by cases z)).2
            obtain ⟨d1, d2, d3, -⟩ := zty_arr (t := 140) (tag := 40) (by decide) (by omega) (by omega) od2
            obtain ⟨s1, s2, s3, -⟩ := zty_arr (t := 140) (tag := 40) (by decide) (by omega) (by omega) os2
            obtain ⟨g1, g2, g3, g4, g5, -⟩ := hg2
            rw [List.map_append, ← p4]
            have K1 := K
            simp only [show nx (cp h sA sp dA dp n) = nx h from rfl, show sc (cp h sA sp dA dp n) = sc h from rfl, Nat.sub_self, Nat.add_zero] at K1
            show W p l e R s m args below meth c H locs cells slots Q (F0 m pc lsr (.int (Int32.ofInt n) :: .int (Int32.ofInt dp) :: va_rf (zro b base dA) :: .int (Int32.ofInt sp) :: va_rf (zro b base sA) :: st1.map (zrv b base)))
            rw [zref_nz d1, zref_nz s1]
            refine zcopyW C F.1 hm s1 s2 s3 d1 d2 d3 osp odp on g1 g2 g3 g4 g5 hc8 ?_ ?_ (by rw [C.2.2.2.1]; exact F.2.2.2.1.1) hd (fun H1 locs1 r1 r2 => K1 H1 locs1 lsr (F.wr r1 ⟨Nat.le_refl _, Nat.le_refl _, fun _ _ => ⟨rfl, fun _ => rfl⟩⟩ (r2 F.2.1) (fun v hv => List.mem_append_right _ hv)))
            · have := Nat.le_of_ble_eq_true hF
              have := C.2.2.2.2.2.2.2.2.2.1
              omega
            · have := Nat.le_of_ble_eq_true hL
              have := C.2.2.2.2.2.2.2.2.2.2
              omega
          · cases h2
        · have hm := zinb_el hs
          have e1 : y1 = 9996 := Nat.eq_of_beq_eq_true (zML_b hm)
          subst e1
          simp only [zinb, Bool.and_eq_true, decide_eq_true_eq] at hs
          obtain ⟨-, ⟨rfl, hF⟩, hL⟩ := hs
          simp only [show Nat.beq 9996 9999 = false from rfl, show Nat.beq 9996 9998 = false from rfl, show Nat.beq 9996 9996 = true from rfl, cond_false, cond_true] at h2 hg
          split at h2
          · rename_i x1 x2
            cases h2
            dsimp only at hg
            obtain ⟨vs, ws, p1, p2, p3, p4, p5, p6, p7⟩ := zpop_ok (b := b) (base := base) _ _ _ _ _ _ _ hp hg
            have e2 : ws = [.inl x2, .inl x1] := by
              rw [List.append_nil] at p2
              have := congrArg List.reverse p2
              rw [List.reverse_reverse] at this
              exact this.symm
            subst e2
            subst p1
            have hst := F.2.2.2.2.2.1
            have hc8 := zrest_cat (b := b) (base := base) hst hcat
            have hok := p5 (fun v hv => hst v (List.mem_append_left _ hv)) (fun e1 he => by simp at he; omega)
            have o2 : inR x2 := (hok _ List.mem_cons_self).1
            have o1 : inR x1 := (hok _ (List.mem_cons_of_mem _ List.mem_cons_self)).1
            rw [List.map_append, ← p4]
            have hts := C.2.2.2.2.2.1
            show W p l e R s m args below meth c H locs cells slots Q (F0 m pc lsr (.int (Int32.ofInt x2) :: .int (Int32.ofInt x1) :: rest.map (zrv b base)))
            have k := zk0 K ((F.stk (st1 := rest) (fun v hv => hst v (List.mem_append_right _ hv))).push (v := .inl (iMax x1 x2)) ⟨by show inR _; unfold iMax; split <;> assumption, rfl⟩)
            refine va_mmax C.1 C.2.1 (by rw [C.2.2.2.1]; exact F.2.2.2.1.1.symm) C.2.2.2.2.1 (hts _ (zML_w _ _ hm _ List.mem_cons_self)) (hts _ (zqS_in _ (by decide))) (hts _ (zqS_in _ (by decide))) (hts _ (zqS_in _ (by decide +kernel))) ?_ ?_ hcs.1 hcs.2 hd ?_
            · have := Nat.le_of_ble_eq_true hF
              have := C.2.2.2.2.2.2.2.2.2.1
              omega
            · have := Nat.le_of_ble_eq_true hL
              have := C.2.2.2.2.2.2.2.2.2.2
              omega
            · have eq : (if Int32.ofInt x1 < Int32.ofInt x2 then Int32.ofInt x2 else Int32.ofInt x1) = Int32.ofInt (iMax x1 x2) := by
                unfold iMax
                by_cases hz : x1 < x2
                · rw [if_pos ((zlt_iff o1 o2).mpr hz), if_pos hz]
                · rw [if_neg (fun w => hz ((zlt_iff o1 o2).mp w)), if_neg hz]
              rw [eq]
              exact k
          · cases h2
        · have hm := zinb_el hs
          have e1 : y1 = 9995 := Nat.eq_of_beq_eq_true (zML_b hm)
          subst e1
          simp only [zinb, Bool.and_eq_true, decide_eq_true_eq] at hs
          obtain ⟨-, ⟨rfl, hF⟩, hL⟩ := hs
          simp only [show Nat.beq 9995 9999 = false from rfl, show Nat.beq 9995 9998 = false from rfl, show Nat.beq 9995 9996 = false from rfl, show Nat.beq 9995 9995 = true from rfl, cond_false, cond_true] at h2 hg
          split at h2
          · rename_i x1 x2
            cases h2
            dsimp only at hg
            obtain ⟨vs, ws, p1, p2, p3, p4, p5, p6, p7⟩ := zpop_ok (b := b) (base := base) _ _ _ _ _ _ _ hp hg
            have e2 : ws = [.inl x2, .inl x1] := by
              rw [List.append_nil] at p2
              have := congrArg List.reverse p2
              rw [List.reverse_reverse] at this
              exact this.symm
            subst e2
            subst p1
            have hst := F.2.2.2.2.2.1
            have hc8 := zrest_cat (b := b) (base := base) hst hcat
            have hok := p5 (fun v hv => hst v (List.mem_append_left _ hv)) (fun e1 he => by simp at he; omega)
            have o2 : inR x2 := (hok _ List.mem_cons_self).1
            have o1 : inR x1 := (hok _ (List.mem_cons_of_mem _ List.mem_cons_self)).1
            rw [List.map_append, ← p4]
            have hts := C.2.2.2.2.2.1
            show W p l e R s m args below meth c H locs cells slots Q (F0 m pc lsr (.int (Int32.ofInt x2) :: .int (Int32.ofInt x1) :: rest.map (zrv b base)))
            have k := zk0 K ((F.stk (st1 := rest) (fun v hv => hst v (List.mem_append_right _ hv))).push (v := .inl (iMin x1 x2)) ⟨by show inR _; unfold iMin; split <;> assumption, rfl⟩)
            refine va_mmin C.1 C.2.1 (by rw [C.2.2.2.1]; exact F.2.2.2.1.1.symm) C.2.2.2.2.1 (hts _ (zML_w _ _ hm _ List.mem_cons_self)) (hts _ (zqS_in _ (by decide))) (hts _ (zqS_in _ (by decide))) (hts _ (zqS_in _ (by decide +kernel))) ?_ ?_ hcs.1 hcs.2 hd ?_
            · have := Nat.le_of_ble_eq_true hF
              have := C.2.2.2.2.2.2.2.2.2.1
              omega
            · have := Nat.le_of_ble_eq_true hL
              have := C.2.2.2.2.2.2.2.2.2.2
              omega
            · have eq : (if Int32.ofInt x2 < Int32.ofInt x1 then Int32.ofInt x2 else Int32.ofInt x1) = Int32.ofInt (iMin x1 x2) := by
                unfold iMin
                by_cases hz : x2 < x1
                · rw [if_pos ((zlt_iff o2 o1).mpr hz), if_pos hz]
                · rw [if_neg (fun w => hz ((zlt_iff o2 o1).mp w)), if_neg hz]
              rw [eq]
              exact k
          · cases h2
  · cases h2
end ZJ2
