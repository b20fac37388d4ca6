section ZK0
variable {p : Program} {l : Launch} {e : Env} {R : Room} {s : State} {m : MethodId} {args : Array Value} {below : List Frame} {meth : Method} {c : Code} {H : Heap} {locs : List Loc} {cells slots : Nat} {Q : State → Prop}
variable {b base : Nat} {D : va_G} {y pc : Nat} {ls st st1 ls1 r : List zV} {h h1 : zH} {lsr lsr1 : Array Slot} {v v1 v2 v3 v4 : zV}
theorem zle_cp {sA dA : Nat} {sp dp n : Int} : zle h (cp h sA sp dA dp n) := ⟨Nat.le_refl _, Nat.le_refl _, fun _ _ => ⟨rfl, fun _ => rfl⟩⟩
theorem zinv_zle {ops : List Nat} {nxt : Nat} {wf : Bool} {brs : List (Prop × Nat)} {d : Nat} (h2 : (zinv ops nxt ls st h).2 = some (.inl (wf, brs, d, ls1, st1, h1))) : zle h h1 := by
  unfold zinv at h2
  split at h2
  · rename_i y1 k es
    split at h2
    · cases h2
    · rename_i gs as1 rest hp
      revert h2
      cases Nat.ble _ 8 with
      | false => intro h2; cases h2
      | true =>
        simp only [cond_true]
        cases Nat.beq y1 9999 with
        | true =>
          simp only [cond_true]
          intro h2
          split at h2
          · cases h2; exact zle.rf
          · cases h2
        | false =>
          simp only [cond_false]
          cases Nat.beq y1 9998 with
          | true =>
            simp only [cond_true]
            intro h2
            split at h2
            · cases h2; exact zle_cp
            · cases h2
          | false =>
            simp only [cond_false]
            cases Nat.beq y1 9996 with
            | true =>
              simp only [cond_true]
              intro h2
              split at h2
              · cases h2; exact zle.rf
              · cases h2
            | false =>
              simp only [cond_false]
              cases Nat.beq y1 9995 with
              | true =>
                simp only [cond_true]
                intro h2
                split at h2
                · cases h2; exact zle.rf
                · cases h2
              | false => intro h2; cases h2
  · cases h2
end ZK0
/-! All instructions together. -/
section ZK
variable {p : Program} {l : Launch} {e : Env} {R : Room} {s : State} {m : MethodId} {args : Array Value} {below : List Frame} {meth : Method} {c : Code} {H : Heap} {locs : List Loc} {cells slots : Nat} {Q : State → Prop}
variable {b base : Nat} {D : va_G} {y pc : Nat} {ls st st1 ls1 r : List zV} {h h1 : zH} {lsr lsr1 : Array Slot} {v v1 v2 v3 v4 : zV}
set_option maxHeartbeats 4000000 in
theorem zstp_zle {E : Instr} {len : Nat} {ops : List Nat} {wf : Bool} {brs : List (Prop × Nat)} {d : Nat} (hs : zsta y pc E len ops = true) (hg : zg (zstp E ops pc len ls st h).1 True) (h2 : (zstp E ops pc len ls st h).2 = some (.inl (wf, brs, d, ls1, st1, h1))) : zle h h1 := by
  cases E
  case getfield i =>
    dsimp only [zstp, zgetf] at h2
    split at h2
    · revert h2
      cases Nat.blt _ 2 with
      | true => intro h2; cases h2; exact zle.rf
      | false =>
        simp only [cond_false]
        cases (Nat.beq _ 3 && Nat.beq _ 0) with
        | true => intro h2; cases h2; exact zle.rf
        | false => intro h2; cases h2; exact zle.rf
    · cases h2
  case putfield i =>
    simp only [zsta, Bool.and_eq_true] at hs
    obtain ⟨-, hs⟩ := hs
    dsimp only [zstp, zputf] at h2 hg
    split at h2
    · rename_i ci k kind ct sl v0 a ta r1
      dsimp only at hg hs
      simp only [Bool.and_eq_true, List.elem_eq_mem, decide_eq_true_eq] at hs
      obtain ⟨hq, hpf⟩ := hs
      obtain ⟨hc, -⟩ := zFL_b hq
      have hc : ci < 12 := hc
      unfold zpf at hpf
      simp only [Bool.and_eq_true] at hpf
      obtain ⟨-, p3⟩ := hpf
      split at h2
      · revert h2
        cases Nat.beq kind 0 with
        | true => intro h2; cases h2; exact zle_sI
        | false =>
          simp only [cond_false]
          cases Nat.beq kind 1 with
          | true => intro h2; cases h2; exact zle_sI
          | false => intro h2; cases h2
      · rename_i x1 tx
        cases hk0 : Nat.blt kind 2 with
        | true => rw [hk0] at h2; cases h2
        | false =>
          rw [hk0] at h2 hg
          simp only [cond_false] at h2 hg
          cases hsl : Nat.beq sl 1 with
          | false => rw [hsl] at h2; cases h2; exact zle_sR
          | true =>
            rw [hsl] at h2 hg p3
            simp only [cond_true, Bool.and_eq_true] at h2 hg p3
            cases h2
            obtain ⟨hg1, -⟩ := zg_app.mp hg
            have ect := Nat.eq_of_beq_eq_true p3.1
            subst ect
            have hraw : tg h a = 20 + ci := by
              simp only [show Nat.beq 1 0 = false from rfl, Bool.and_false, cond_false, show Nat.beq 1 1 = true from rfl, cond_true] at hg1
              revert hg1
              cases Nat.beq ta 0 with
              | true => exact fun z => (zty_raw hc z.1).2.2
              | false => exact fun z => z.1.elim
            exact ⟨Nat.le_refl _, Nat.le_refl _, fun q _ => ⟨rfl, fun z => by
              show (if q = a then ci else tg h q) = tg h q
              rw [if_neg]
              intro e2
              rw [e2, hraw] at z
              omega⟩⟩
      · cases h2
    · cases h2
  case iastore => dsimp only [zstp, zast] at h2; split at h2 <;> first | (cases h2; done) | (cases h2; exact zle_sI)
  case bastore => dsimp only [zstp, zast] at h2; split at h2 <;> first | (cases h2; done) | (cases h2; exact zle_sI)
  case lastore => dsimp only [zstp, zast] at h2; split at h2 <;> first | (cases h2; done) | (cases h2; exact zle_sI)
  case aastore => dsimp only [zstp, zaast] at h2; split at h2 <;> first | (cases h2; done) | (cases h2; exact zle_sR)
  case new i =>
    dsimp only [zstp] at h2
    revert h2
    cases Nat.blt _ 12 with
    | true => intro h2; cases h2; exact zle_nw
    | false => intro h2; cases h2
  case newarray a => dsimp only [zstp] at h2; split at h2 <;> first | (cases h2; done) | (cases h2; exact zle_nw)
  case anewarray i => dsimp only [zstp] at h2; split at h2 <;> first | (cases h2; done) | (cases h2; exact zle_nw)
  case istore i =>
    dsimp only [zstp] at h2
    split at h2
    · revert h2
      cases Nat.blt _ _ with
      | true => intro h2; cases h2; exact zle.rf
      | false => intro h2; cases h2
    · cases h2
  case istore_n i =>
    dsimp only [zstp] at h2
    split at h2
    · revert h2
      cases Nat.blt _ _ with
      | true => intro h2; cases h2; exact zle.rf
      | false => intro h2; cases h2
    · cases h2
  case astore i =>
    dsimp only [zstp] at h2
    split at h2
    · revert h2
      cases Nat.blt _ _ with
      | true => intro h2; cases h2; exact zle.rf
      | false => intro h2; cases h2
    · cases h2
  case astore_n i =>
    dsimp only [zstp] at h2
    split at h2
    · revert h2
      cases Nat.blt _ _ with
      | true => intro h2; cases h2; exact zle.rf
      | false => intro h2; cases h2
    · cases h2
  case iaload => dsimp only [zstp, zald] at h2; split at h2 <;> first | (cases h2; done) | (cases h2; exact zle.rf)
  case baload => dsimp only [zstp, zald] at h2; split at h2 <;> first | (cases h2; done) | (cases h2; exact zle.rf)
  case laload => dsimp only [zstp, zlald] at h2; split at h2 <;> first | (cases h2; done) | (cases h2; exact zle.rf)
  case aaload => dsimp only [zstp, zaald] at h2; split at h2 <;> first | (cases h2; done) | (cases h2; exact zle.rf)
  case invokevirtual i => exact zinv_zle h2
  case invokespecial i => exact zinv_zle h2
  case invokestatic i => exact zinv_zle h2
  case if_acmp cc oo => dsimp only [zstp] at h2; split at h2 <;> first | (cases h2; done) | (cases cc <;> (cases h2; exact zle.rf))
  all_goals first
    | (dsimp only [zstp, zno] at h2; cases h2; done)
    | (dsimp only [zstp] at h2; cases h2; exact zle.rf)
    | (dsimp only [zstp] at h2; split at h2 <;> first | (cases h2; done) | (cases h2; exact zle.rf))
set_option maxHeartbeats 4000000 in
theorem zJ (C : zctx y p R s m args meth c) (F : zfrm b base D s y ls st h H locs lsr) {E : Instr} {len : Nat} {ops : List Nat} (hd : decode (zB y) pc = .ok (E, len)) (hs : zsta y pc E len ops = true) {wf : Bool} {brs : List (Prop × Nat)} {d : Nat} (h2 : (zstp E ops pc len ls st h).2 = some (.inl (wf, brs, d, ls1, st1, h1))) (hg : zg (zstp E ops pc len ls st h).1 True)
    (hroom : cells + (nx h1 - nx h) ≤ R.cells ∧ slots + (sc h1 - sc h) ≤ R.slots) (hcs : cells ≤ R.cells ∧ slots ≤ R.slots) (hlen : ln h 1 < 2 ^ 31)
    (K : ∀ H1 locs1 lsr1, zfrm b base D s y ls1 st1 h1 H1 locs1 lsr1 → W p l e R s m args below meth c H1 locs1 (cells + (nx h1 - nx h)) (slots + (sc h1 - sc h)) Q (F0 m (zch brs d) lsr1 (st1.map (zrv b base)))) : W p l e R s m args below meth c H locs cells slots Q (F0 m pc lsr (st.map (zrv b base))) := by
  cases E
  case laload => exact zJ_laload C F hd hs h2 hg hroom hcs K
  case lastore => exact zJ_lastore C F hd hs h2 hg hroom hcs K
  case arraylength => exact zJ_arraylength C F hd hs h2 hg hroom hcs hlen K
  case ifCond cc o1 =>
    cases cc
    case eq => exact zJ_if_eq C F hd hs h2 hg hroom hcs K
    case ne => exact zJ_if_ne C F hd hs h2 hg hroom hcs K
    case lt => exact zJ_if_lt C F hd hs h2 hg hroom hcs K
    case ge => exact zJ_if_ge C F hd hs h2 hg hroom hcs K
    case gt => exact zJ_if_gt C F hd hs h2 hg hroom hcs K
    case le => exact zJ_if_le C F hd hs h2 hg hroom hcs K
  case if_icmp cc o1 =>
    cases cc
    case eq => exact zJ_icmp_eq C F hd hs h2 hg hroom hcs K
    case ne => exact zJ_icmp_ne C F hd hs h2 hg hroom hcs K
    case lt => exact zJ_icmp_lt C F hd hs h2 hg hroom hcs K
    case ge => exact zJ_icmp_ge C F hd hs h2 hg hroom hcs K
    case gt => exact zJ_icmp_gt C F hd hs h2 hg hroom hcs K
    case le => exact zJ_icmp_le C F hd hs h2 hg hroom hcs K
  case if_acmp cc o1 =>
    cases cc
    case eq => exact zJ_acmp_eq C F hd hs h2 hg hroom hcs K
    case ne => exact zJ_acmp_ne C F hd hs h2 hg hroom hcs K
  case iadd => exact zJ_iadd C F hd hs h2 hg hroom hcs K
  case isub => exact zJ_isub C F hd hs h2 hg hroom hcs K
  case imul => exact zJ_imul C F hd hs h2 hg hroom hcs K
  case iand => exact zJ_iand C F hd hs h2 hg hroom hcs K
  case ior => exact zJ_ior C F hd hs h2 hg hroom hcs K
  case ixor => exact zJ_ixor C F hd hs h2 hg hroom hcs K
  case ishl => exact zJ_ishl C F hd hs h2 hg hroom hcs K
  case idiv => exact zJ_idiv C F hd hs h2 hg hroom hcs K
  case irem => exact zJ_irem C F hd hs h2 hg hroom hcs K
  case iushr => exact zJ_iushr C F hd hs h2 hg hroom hcs K
  case i2b => exact zJ_i2b C F hd hs h2 hg hroom hcs K
  case i2l => exact zJ_i2l C F hd hs h2 hg hroom hcs K
  case lsub => exact zJ_lsub C F hd hs h2 hg hroom hcs K
  case lcmp => exact zJ_lcmp C F hd hs h2 hg hroom hcs K
  case aconst_null => exact zJ_aconst_null C F hd hs h2 hg hroom hcs K
  case dup => exact zJ_dup C F hd hs h2 hg hroom hcs K
  case dup2 => exact zJ_dup2 C F hd hs h2 hg hroom hcs K
  case pop => exact zJ_pop C F hd hs h2 hg hroom hcs K
  case getfield i => exact zJ_getfield C F hd hs h2 hg hroom hcs K
  case putfield i => exact zJ_putfield C F hd hs h2 hg hroom hcs K
  case iaload => exact zJ_iaload C F hd hs h2 hg hroom hcs K
  case baload => exact zJ_baload C F hd hs h2 hg hroom hcs K
  case aaload => exact zJ_aaload C F hd hs h2 hg hroom hcs K
  case iastore => exact zJ_iastore C F hd hs h2 hg hroom hcs K
  case bastore => exact zJ_bastore C F hd hs h2 hg hroom hcs K
  case aastore => exact zJ_aastore C F hd hs h2 hg hroom hcs K
  case new i => exact zJ_new C F hd hs h2 hg hroom hcs K
  case newarray a => exact zJ_newarray C F hd hs h2 hg hroom hcs K
  case anewarray i => exact zJ_anewarray C F hd hs h2 hg hroom hcs K
  case iconst n => exact zJ_iconst C F hd hs h2 hg hroom hcs K
  case bipush n => exact zJ_bipush C F hd hs h2 hg hroom hcs K
  case sipush n => exact zJ_sipush C F hd hs h2 hg hroom hcs K
  case ldc i => exact zJ_ldc C F hd hs h2 hg hroom hcs K
  case ldc_w i => exact zJ_ldc_w C F hd hs h2 hg hroom hcs K
  case ldc2_w i => exact zJ_ldc2_w C F hd hs h2 hg hroom hcs K
  case lconst n => exact zJ_lconst C F hd hs h2 hg hroom hcs K
  case iload i => exact zJ_iload C F hd hs h2 hg hroom hcs K
  case iload_n i => exact zJ_iload_n C F hd hs h2 hg hroom hcs K
  case lload i => exact zJ_lload C F hd hs h2 hg hroom hcs K
  case lload_n i => exact zJ_lload_n C F hd hs h2 hg hroom hcs K
  case aload i => exact zJ_aload C F hd hs h2 hg hroom hcs K
  case aload_n i => exact zJ_aload_n C F hd hs h2 hg hroom hcs K
  case istore i => exact zJ_istore C F hd hs h2 hg hroom hcs K
  case istore_n i => exact zJ_istore_n C F hd hs h2 hg hroom hcs K
  case astore i => exact zJ_astore C F hd hs h2 hg hroom hcs K
  case astore_n i => exact zJ_astore_n C F hd hs h2 hg hroom hcs K
  case iinc i n => exact zJ_iinc C F hd hs h2 hg hroom hcs K
  case goto o1 => exact zJ_goto C F hd hs h2 hg hroom hcs K
  case ifnull o1 => exact zJ_ifnull C F hd hs h2 hg hroom hcs K
  case ifnonnull o1 => exact zJ_ifnonnull C F hd hs h2 hg hroom hcs K
  case tableswitch dd lo hi offs => exact zJ_tableswitch C F hd hs h2 hg hroom hcs K
  case lookupswitch dd ps => exact zJ_lookupswitch C F hd hs h2 hg hroom hcs K
  case invokevirtual i => exact zJ_invokevirtual C F hd hs h2 hg hroom hcs K
  case invokespecial i => exact zJ_invokespecial C F hd hs h2 hg hroom hcs K
  case invokestatic i => exact zJ_invokestatic C F hd hs h2 hg hroom hcs K
  all_goals first
    | (dsimp only [zstp, zno] at h2; cases h2; done)
    | (dsimp only [zstp] at h2; split at h2 <;> cases h2)
end ZK
