/-! Operands of calls; copying; what only grows. -/
section ZI
variable {p : Program} {l : Launch} {e : Env} {R : Room} {s : State} {m : MethodId} {args : Array Value} {below : List Frame} {meth : Method} {c : Code} {H : Heap} {locs : List Loc} {cells slots : Nat} {Q : State → Prop}
variable {b base : Nat} {D : va_G} {y pc : Nat} {ls st st1 ls1 r : List zV} {h h1 : zH} {lsr lsr1 : Array Slot} {v v1 v2 v3 v4 : zV}
def zcoR (e1 : Nat) (w : zV) : Prop := (e1 ≠ 1 → zlong w = false) ∧ (e1 = 1 → zlong w = true) ∧ (3 ≤ e1 → ∃ x, w = .inr (.inl (x, e1))) ∧ (e1 = 2 → ∃ x, w = .inr (.inl (x, 0)) ∧ x ≠ 0)
theorem zco_ok {e1 : Nat} {w : zV} {g : List Prop} (hc : zco e1 v h = some (g, w)) : zrv b base w = zrv b base v ∧ (zg g True → zcoR e1 w) ∧ zun w = false ∧ (zg g True → zok h v → (e1 ≤ 1 ∨ zperm e1) → zok h w) := by
  rcases v with x | ⟨x, t⟩ | x | u
  · dsimp only [zco] at hc
    cases hb : Nat.beq e1 0 with
    | false => rw [hb] at hc; cases hc
    | true =>
      rw [hb] at hc
      cases hc
      have e0 := Nat.eq_of_beq_eq_true hb
      exact ⟨rfl, fun _ => ⟨fun _ => rfl, fun z => by omega, fun z => by omega, fun z => by omega⟩, rfl, fun _ z _ => z⟩
  · dsimp only [zco] at hc
    cases hb : Nat.beq e1 0 with
    | true =>
      rw [hb] at hc
      cases hc
      have e0 := Nat.eq_of_beq_eq_true hb
      exact ⟨rfl, fun _ => ⟨fun _ => rfl, fun z => by omega, fun z => by omega, fun z => by omega⟩, rfl, fun _ z _ => z⟩
    | false =>
      rw [hb] at hc
      simp only [cond_false] at hc
      cases hb1 : Nat.beq e1 1 with
      | true => rw [hb1] at hc; cases hc
      | false =>
        rw [hb1] at hc
        simp only [cond_false] at hc
        have n1 : e1 ≠ 1 := fun z => by rw [z] at hb1; cases hb1
        have n0 : e1 ≠ 0 := fun z => by rw [z] at hb; cases hb
        cases hbz : Nat.beq e1 2 with
        | true =>
          rw [hbz] at hc
          cases hc
          have e2 := Nat.eq_of_beq_eq_true hbz
          exact ⟨rfl, fun g1 => ⟨fun _ => rfl, fun z => absurd z n1, fun z => by omega, fun _ => ⟨x, rfl, g1.1⟩⟩, rfl, fun _ _ _ => Or.inl rfl⟩
        | false =>
        rw [hbz] at hc
        simp only [cond_false] at hc
        have n2 : e1 ≠ 2 := fun z => by rw [z] at hbz; cases hbz
        cases hb2 : Nat.beq t e1 with
        | true =>
          rw [hb2] at hc
          cases hc
          have e2 := Nat.eq_of_beq_eq_true hb2
          exact ⟨rfl, fun _ => ⟨fun _ => rfl, fun z => absurd z n1, fun _ => ⟨x, by rw [e2]⟩, fun z => absurd z n2⟩, rfl, fun _ z _ => z⟩
        | false =>
          rw [hb2] at hc
          simp only [cond_false] at hc
          cases hb3 : Nat.beq t 0 with
          | true =>
            rw [hb3] at hc
            cases hc
            exact ⟨rfl, fun _ => ⟨fun _ => rfl, fun z => absurd z n1, fun _ => ⟨x, rfl⟩, fun z => absurd z n2⟩, rfl, fun g1 _ z => Or.inr ⟨z.resolve_left (by omega), g1.1⟩⟩
          | false =>
            rw [hb3] at hc
            simp only [cond_false] at hc
            cases hb4 : (Nat.beq (Nat.mod t 100) (Nat.mod e1 100) && Nat.beq (Nat.div e1 100) 1 && Nat.blt 1 (Nat.div t 100) && Nat.blt (Nat.mod e1 100) 47) with
            | false => rw [hb4] at hc; cases hc
            | true =>
              rw [hb4] at hc
              cases hc
              simp only [Bool.and_eq_true] at hb4
              obtain ⟨⟨⟨q1, q2⟩, q3⟩, q4⟩ := hb4
              have q4 : e1 % 100 < 47 := by rw [Nat.blt_eq] at q4; exact q4
              have q1 : t % 100 = e1 % 100 := Nat.eq_of_beq_eq_true q1
              have q2 : e1 / 100 = 1 := Nat.eq_of_beq_eq_true q2
              have q3 : 1 < t / 100 := by rw [Nat.blt_eq] at q3; exact q3
              refine ⟨rfl, fun _ => ⟨fun _ => rfl, fun z => absurd z n1, fun _ => ⟨x, rfl⟩, fun z => absurd z n2⟩, rfl, fun _ hv hp => Or.inr ⟨hp.resolve_left (by omega), ?_⟩⟩
              rcases hv with hv | ⟨hv1, hv2⟩
              · have hv : t = 0 := hv
                omega
              · have hv2 : zty t x h := hv2
                show zty e1 x h
                unfold zty at hv2 ⊢
                have hbt : Nat.beq t 147 = false := zbeqF (by omega)
                rw [hbt] at hv2
                obtain ⟨k1, k2, k3, k4⟩ := hv2
                cases hbe : Nat.beq e1 147 with
                | true =>
                  exfalso
                  have := Nat.eq_of_beq_eq_true hbe
                  omega
                | false => exact ⟨k1, k2, by rw [k3, q1], Or.inl q2⟩
  · dsimp only [zco] at hc
    cases hb : Nat.beq e1 1 with
    | false => rw [hb] at hc; cases hc
    | true =>
      rw [hb] at hc
      cases hc
      have e0 := Nat.eq_of_beq_eq_true hb
      exact ⟨rfl, fun _ => ⟨fun z => absurd e0 z, fun _ => rfl, fun z => by omega, fun z => by omega⟩, rfl, fun _ z _ => z⟩
  · cases hc
theorem zpop_ok : ∀ (es : List Nat) (st : List zV) (gs : List Prop) (acc : List zV) (gs1 : List Prop) (as1 rest : List zV), zpop es st h gs acc = some (gs1, as1, rest) → zg gs1 True →
    ∃ vs ws : List zV, st = vs ++ rest ∧ as1 = ws.reverse ++ acc ∧ ws.length = es.length ∧ ws.map (zrv b base) = vs.map (zrv b base) ∧ ((∀ v ∈ vs, zok h v ∧ zun v = false) → (∀ e1 ∈ es, e1 ≤ 1 ∨ zperm e1) → ∀ w ∈ ws, zok h w ∧ zun w = false) ∧ zg gs True ∧ (∀ (j e1 : Nat) (w : zV), es[j]? = some e1 → ws[j]? = some w → zcoR e1 w)
  | [], st, gs, acc, gs1, as1, rest, hp, hg => by
    cases hp
    exact ⟨[], [], rfl, rfl, rfl, rfl, fun _ _ w hw => absurd hw List.not_mem_nil, hg, fun j e1 w hj => by simp at hj⟩
  | e1 :: es, [], gs, acc, gs1, as1, rest, hp, hg => by cases hp
  | e1 :: es, v :: st, gs, acc, gs1, as1, rest, hp, hg => by
    dsimp only [zpop] at hp
    split at hp
    · cases hp
    · rename_i g w hc
      obtain ⟨vs, ws, p1, p2, p3, p4, p5, p6, p7⟩ := zpop_ok es st _ _ gs1 as1 rest hp hg
      obtain ⟨c1, c2, c3, c4⟩ := zco_ok (b := b) (base := base) hc
      obtain ⟨g1, g2⟩ := zg_app.mp p6
      refine ⟨v :: vs, w :: ws, by rw [p1]; rfl, by rw [p2, List.reverse_cons, List.append_assoc]; rfl, by rw [List.length_cons, p3, List.length_cons], by rw [List.map_cons, List.map_cons, c1, p4], ?_, g2, ?_⟩
      · intro hv he w2 hw2
        rcases List.mem_cons.mp hw2 with rfl | hw2
        · exact ⟨c4 g1 (hv v List.mem_cons_self).1 (he e1 List.mem_cons_self), c3⟩
        · exact p5 (fun u hu => hv u (List.mem_cons_of_mem _ hu)) (fun u hu => he u (List.mem_cons_of_mem _ hu)) w2 hw2
      · intro j f u hj hu
        cases j with
        | zero => cases hj; cases hu; exact c2 g1
        | succ j => exact p7 j f u hj hu
/-- a row of ints is copied -/
theorem zcopyW (C : zctx y p R s m args meth c) (hR : zRel b base D s h H) {i sA dA : Nat} {sp dp n : Int} (hm : (i, 9998, 11) ∈ zML (zow y)) (s1 : 2 ≤ sA) (s2 : sA < nx h) (s3 : tg h sA = 40) (d1 : 2 ≤ dA) (d2 : dA < nx h) (d3 : tg h dA = 40)
    (isp : inR sp) (idp : inR dp) (inn : inR n) (sp0 : 0 ≤ sp) (dp0 : 0 ≤ dp) (n0 : 0 ≤ n) (hs : sp + n ≤ Int.ofNat (ln h sA)) (hdn : dp + n ≤ Int.ofNat (ln h dA)) {rest : List Value} (hrest : (rest.map fun v => v.category).sum ≤ 8) (hF : 1 ≤ R.frames) (hLo : 27 ≤ R.locals) (hsz : lsr.size = c.maxLocals) (hd : decode (zB y) pc = .ok (.invokestatic i, 3))
    (kk : ∀ (H1 : Heap) (locs1 : List Loc), zRel b base D s (cp h sA sp dA dp n) H1 → ((∀ q ∈ locs, base ≤ q.base) → ∀ q ∈ locs1, base ≤ q.base) → W p l e R s m args below meth c H1 locs1 cells slots Q (F0 m (pc + 3) lsr rest)) : W p l e R s m args below meth c H locs cells slots Q (F0 m pc lsr (.int (Int32.ofInt n) :: .int (Int32.ofInt dp) :: .ref (zra b base dA) :: .int (Int32.ofInt sp) :: .ref (zra b base sA) :: rest)) := by
  have hts := C.2.2.2.2.2.1
  obtain ⟨c0, q0, r0⟩ := zarrI (ty := .int) hR s1 s2 (by rw [s3]; rfl)
  obtain ⟨c1, q1, r1⟩ := zarrI (ty := .int) hR d1 d2 (by rw [d3]; rfl)
  rw [s3] at r0
  rw [d3] at r1
  have r0 : H[zra b base sA]? = some (vp_cell c0 (ln h sA, .inl (fun j => Int32.ofInt (gI h sA (Int.ofNat j))))) := r0
  have r1 : H[zra b base dA]? = some (vp_cell c1 (ln h dA, .inl (fun j => Int32.ofInt (gI h dA (Int.ofNat j))))) := r1
  generalize hf : (fun j : Nat => Int32.ofInt (gI h sA (Int.ofNat j))) = f at r0
  generalize hg : (fun j : Nat => Int32.ofInt (gI h dA (Int.ofNat j))) = g at r1
  have esp := z_clamp isp
  have edp := z_clamp idp
  have en := z_clamp inn
  have hsN : (Int32.ofInt sp).toNatClampNeg + (Int32.ofInt n).toNatClampNeg ≤ ln h sA := by rw [esp, en]; simp only [Int.ofNat_eq_natCast] at hs; omega
  have hdN : (Int32.ofInt dp).toNatClampNeg + (Int32.ofInt n).toNatClampNeg ≤ ln h dA := by rw [edp, en]; simp only [Int.ofNat_eq_natCast] at hdn; omega
  have ng : ∀ {z : Int}, inR z → 0 ≤ z → ¬ Int32.ofInt z < 0 := fun hz h0 w => by have := (zlt_iff hz z_0).mp (by rw [z_of0]; exact w); omega
  intro T hT X
  obtain ⟨-, k0, hk0, cm0, hkk0⟩ := q0 (ln h sA) (fun j => .int (f j))
  obtain ⟨-, k1, hk1, cm1, hkk1⟩ := q1 (ln h dA) (fun j => .int (g j))
  obtain ⟨vm', X', step⟩ := X.arraycopy C.1 C.2.2.2.2.1 (hts _ (zML_w _ _ hm _ List.mem_cons_self)) (hts _ (zqS_in _ (by decide))) (hts _ (zqS_in _ (by decide))) (hts _ (zqS_in _ (by decide))) (src := zra b base sA) (dst := zra b base dA) (cs := vp_cell c0 (ln h sA, .inl f)) (cd := vp_cell c1 (ln h dA, .inl g)) (srcPos := Int32.ofInt sp) (destPos := Int32.ofInt dp) (n := Int32.ofInt n) (by rw [hT]; exact r0) (by rw [hT]; exact r1)
    (fun _ z => by cases z) (fun _ z => by cases z) (fun z => by cases z) (fun z => by cases z) hk0 hk1 hkk0 hkk1 (by simp [refKind]) (ng isp sp0) (ng idp dp0) (ng inn n0)
    (by rw [z32 isp, z32 inn]; show ¬ _ > ((arrV c0 (ln h sA) (fun j => .int (f j))).slots.size : Int); rw [arrV_size]; simp only [Int.ofNat_eq_natCast] at hs; omega)
    (by rw [z32 idp, z32 inn]; show ¬ _ > ((arrV c1 (ln h dA) (fun j => .int (g j))).slots.size : Int); rw [arrV_size]; simp only [Int.ofNat_eq_natCast] at hdn; omega)
    (fun vm₁ _ j hj => by
      have e1 : (vp_cell c0 (ln h sA, .inl f)).slots.getD ((Int32.ofInt sp).toNatClampNeg + j) .null = .int (f ((Int32.ofInt sp).toNatClampNeg + j)) := by
        show (arrV c0 (ln h sA) (fun j => .int (f j))).slots.getD _ _ = _
        rw [Array.getD_eq_getD_getElem?, arrV_read _ _ (by omega)]
        rfl
      rw [e1]
      exact ⟨rfl, trivial⟩)
    (g := F0 m pc lsr (.int (Int32.ofInt n) :: .int (Int32.ofInt dp) :: .ref (zra b base dA) :: .int (Int32.ofInt sp) :: .ref (zra b base sA) :: rest)) rfl hsz (rest := rest) rfl (by rw [C.2.1]; exact hd) hF (by show 2 * 0 + _ + (7 + 11) ≤ _; omega)
  have e1 : copied (vp_cell c0 (ln h sA, .inl f)) (vp_cell c1 (ln h dA, .inl g)) (Int32.ofInt sp) (Int32.ofInt dp) (Int32.ofInt n) = vp_cell c1 (ln h dA, .inl (va_cpy f g (Int32.ofInt sp).toNatClampNeg (Int32.ofInt dp).toNatClampNeg (Int32.ofInt n).toNatClampNeg)) := va_copied (fun z => .int z) c0 c1 f g hsN
  rw [e1, esp, edp, en] at X' step
  have hl : zra b base dA < H.size := (Array.getElem?_eq_some_iff.mp r1).1
  have e2 : vp_cell c1 (ln h dA, .inl (va_cpy f g sp.toNat dp.toNat n.toNat)) = arrV c1 (ln h dA) (fun j => zel 40 (gI (cp h sA sp dA dp n) dA (Int.ofNat j))) := by
    show arrV c1 (ln h dA) (fun j => .int (va_cpy f g sp.toNat dp.toNat n.toNat j)) = _
    congr 1
    funext j
    show Value.int _ = Value.int _
    congr 1
    unfold va_cpy
    show _ = Int32.ofInt (if dA = dA ∧ dp ≤ Int.ofNat j ∧ Int.ofNat j < dp + n then gI h sA (sp + (Int.ofNat j - dp)) else gI h dA (Int.ofNat j))
    simp only [Int.ofNat_eq_natCast, true_and]
    by_cases hj : dp.toNat ≤ j ∧ j < dp.toNat + n.toNat
    · rw [if_pos hj, if_pos (by omega), ← hf]
      show Int32.ofInt (gI h sA ((sp.toNat + (j - dp.toNat) : Nat) : Int)) = _
      congr 2
      omega
    · rw [if_neg hj, if_neg (by omega), ← hg]
      rfl
  have hR1 : zRel b base D s (cp h sA sp dA dp n) (H.setIfInBounds (zra b base dA) (vp_cell c1 (ln h dA, .inl (va_cpy f g sp.toNat dp.toNat n.toNat)))) := by
    have oq : ∀ q : Nat, q ≠ zra b base dA → (H.setIfInBounds (zra b base dA) (vp_cell c1 (ln h dA, .inl (va_cpy f g sp.toNat dp.toNat n.toNat))))[q]? = H[q]? := fun q hq => by simp [Array.getElem?_setIfInBounds, Ne.symm hq]
    refine (zRel.set (h1 := cp h sA sp dA dp n) hR d1 d2 rfl (by simp) oq (fun _ => rfl) (fun _ _ => rfl) (fun _ => rfl) (fun q j hq => if_neg (fun z => hq z.1)) (fun _ _ _ => rfl) (fun j => ?_) (zcR_arrI (h1 := cp h sA sp dA dp n) d3 rfl q1 ?_) (fun ht q hq => hR.2.2.2.2.2.2.1 dA d1 d2 ht q hq) zlay_perm).1
    · show inR (if dA = dA ∧ dp ≤ j ∧ j < dp + n then h.1 sA (sp + (j - dp)) else h.1 dA j)
      split
      · exact hR.2.2.2.2.2.1 _ _
      · exact hR.2.2.2.2.2.1 _ _
    · rw [e2]
      simp [Array.getElem?_setIfInBounds, hl]
      rfl
  obtain ⟨t, a1, b1⟩ := kk _ _ hR1 (fun z q hq => by
      rcases List.mem_append.mp hq with w | w
      · exact z q w
      · obtain ⟨u, -, hu⟩ := List.mem_map.mp w
        rw [← hu]
        exact zra_ge d1) _ (by rw [← hT]; rfl) X'
  exact ⟨t, step t a1, b1⟩
theorem zcat_ok : ∀ rest : List zV, (∀ v ∈ rest, zun v = false) → ((rest.map (zrv b base)).map fun v => v.category).sum = zcat rest
  | [], _ => rfl
  | v :: r, hv => by
    have ih := zcat_ok r (fun w hw => hv w (List.mem_cons_of_mem _ hw))
    have h0 := hv v List.mem_cons_self
    rw [List.map_cons, List.map_cons, List.sum_cons, ih]
    rcases v with x | q | x | u
    · rfl
    · rw [zrv_cat (v := .inr (.inl q)) rfl]; rfl
    · rfl
    · cases h0
end ZI
