/-! Entries, contracts, calls. -/
section ZM
variable {p : Program} {l : Launch} {e : Env} {R : Room} {s : State} {m : MethodId} {args : Array Value} {below : List Frame} {meth : Method} {c : Code} {H : Heap} {locs : List Loc} {cells slots : Nat} {Q : State → Prop}
variable {b base : Nat} {D : va_G} {y pc : Nat} {ls st st1 ls1 r : List zV} {h h1 : zH} {lsr lsr1 : Array Slot} {v v1 v2 v3 v4 : zV}
theorem zents_len : ∀ as1 : List zV, (∀ v ∈ as1, zun v = false) → (lg_sl (as1.map (zrv b base))).length = (zents as1).length
  | [], _ => rfl
  | v :: r, hv => by
    have ih := zents_len r (fun w hw => hv w (List.mem_cons_of_mem _ hw))
    have h0 := hv v List.mem_cons_self
    have e1 : lg_sl ((v :: r).map (zrv b base)) = (if (zrv b base v).category = 2 then [.val (zrv b base v), .second] else [.val (zrv b base v)]) ++ lg_sl (r.map (zrv b base)) := rfl
    rw [e1, List.length_append, ih]
    rcases v with x | q | x | u
    · show 1 + _ = (zents r).length + 1; omega
    · rw [zrv_cat (v := .inr (.inl q)) rfl]; show 1 + _ = (zents r).length + 1; omega
    · show 2 + _ = (zents r).length + 1 + 1; omega
    · cases h0
theorem zents_app : ∀ a1 a2 : List zV, zents (a1 ++ a2) = zents a1 ++ zents a2
  | [], _ => rfl
  | v :: r, a2 => by
    have ih := zents_app r a2
    rcases v with x | q | x | u
    · show _ :: zents (r ++ a2) = _ :: (zents r ++ zents a2); rw [ih]
    · show _ :: zents (r ++ a2) = _ :: (zents r ++ zents a2); rw [ih]
    · show _ :: _ :: zents (r ++ a2) = _ :: _ :: (zents r ++ zents a2); rw [ih]
    · show _ :: zents (r ++ a2) = _ :: (zents r ++ zents a2); rw [ih]
theorem zents_rev : ∀ ws : List zV, (zents ws.reverse).length = (zents ws).length
  | [] => rfl
  | v :: r => by
    rw [List.reverse_cons, zents_app, List.length_append, zents_rev r]
    rcases v with x | q | x | u
    · rfl
    · rfl
    · rfl
    · rfl
theorem zsz_eq : ∀ (es : List Nat) (ws : List zV), ws.length = es.length → (∀ (j e1 : Nat) (w : zV), es[j]? = some e1 → ws[j]? = some w → zcoR e1 w) → (zents ws).length = zsz es
  | [], [], _, _ => rfl
  | [], _ :: _, hl, _ => by cases hl
  | _ :: _, [], hl, _ => by cases hl
  | e1 :: es, w :: ws, hl, hp => by
    have ih := zsz_eq es ws (Nat.succ.inj hl) (fun j f u hj hu => hp (j + 1) f u hj hu)
    obtain ⟨c1, c2, -⟩ := hp 0 e1 w rfl rfl
    unfold zsz
    by_cases he : e1 = 1
    · have hw := c2 he
      rw [he, show Nat.beq 1 1 = true from rfl, ← ih]
      rcases w with x | q | x | u
      · cases hw
      · cases hw
      · show (zents ws).length + 1 + 1 = 2 + _; omega
      · cases hw
    · have hw := c1 he
      rw [zbeqF he, ← ih]
      rcases w with x | q | x | u
      · show (zents ws).length + 1 = 1 + _; omega
      · show (zents ws).length + 1 = 1 + _; omega
      · cases hw
      · show (zents ws).length + 1 = 1 + _; omega
theorem zpad_len : ∀ (n : Nat) (l1 : List zV), (zpad n l1).length = n
  | 0, _ => rfl
  | n + 1, [] => by show (zpad n []).length + 1 = n + 1; rw [zpad_len n []]
  | n + 1, v :: r => by show (zpad n r).length + 1 = n + 1; rw [zpad_len n r]
theorem zpad_mem : ∀ (n : Nat) (l1 : List zV) (v : zV), v ∈ zpad n l1 → v ∈ l1 ∨ v = vU
  | 0, _, v, h => absurd h List.not_mem_nil
  | n + 1, [], v, h => by
    rcases List.mem_cons.mp h with h | h
    · exact Or.inr h
    · exact zpad_mem n [] v h
  | n + 1, w :: r, v, h => by
    rcases List.mem_cons.mp h with h | h
    · exact Or.inl (List.mem_cons.mpr (Or.inl h))
    · exact (zpad_mem n r v h).imp (List.mem_cons_of_mem _) id
theorem zents_mem : ∀ (l1 : List zV) (v : zV), v ∈ zents l1 → v ∈ l1 ∨ v = vU
  | [], v, h => absurd h List.not_mem_nil
  | w :: r, v, h => by
    have ih := zents_mem r v
    rcases w with x | q | x | u
    · rcases List.mem_cons.mp h with h | h
      · exact Or.inl (List.mem_cons.mpr (Or.inl h))
      · exact (ih h).imp (List.mem_cons_of_mem _) id
    · rcases List.mem_cons.mp h with h | h
      · exact Or.inl (List.mem_cons.mpr (Or.inl h))
      · exact (ih h).imp (List.mem_cons_of_mem _) id
    · rcases List.mem_cons.mp h with h | h
      · exact Or.inl (List.mem_cons.mpr (Or.inl h))
      · rcases List.mem_cons.mp h with h | h
        · exact Or.inr h
        · exact (ih h).imp (List.mem_cons_of_mem _) id
    · rcases List.mem_cons.mp h with h | h
      · exact Or.inl (List.mem_cons.mpr (Or.inl h))
      · exact (ih h).imp (List.mem_cons_of_mem _) id
theorem zpad_nil : ∀ (n j : Nat) (v : zV), (zpad n [])[j]? = some v → zun v = false → False
  | 0, j, v, h, _ => by simp [zpad] at h
  | n + 1, 0, v, h, hu => by
    have h : some vU = some v := h
    cases h
    cases hu
  | n + 1, j + 1, v, h, hu => zpad_nil n j v h hu
theorem zent_at : ∀ (as1 : List zV) (i n j : Nat) (v : zV), (zpad n (zents as1))[j]? = some v → zun v = false → (i + j, zrv b base v) ∈ lv_args i (as1.map (zrv b base))
  | [], i, n, j, v, h, hu => (zpad_nil n j v h hu).elim
  | w :: r, i, 0, j, v, h, hu => by simp [zpad] at h
  | w :: r, i, n + 1, j, v, h, hu => by
    have one : ∀ (w : zV), zlong w = false → (w :: zpad n (zents r))[j]? = some v → (i + j, zrv b base v) ∈ lv_args i ((w :: r).map (zrv b base)) := by
      intro w hw h
      cases j with
      | zero => cases h; exact List.mem_cons_self
      | succ j =>
        have h : (zpad n (zents r))[j]? = some v := h
        have ih := zent_at r (i + 1) n j v h hu
        refine List.mem_cons_of_mem _ ?_
        rw [if_neg (by rw [zrv_cat hw]; omega)]
        rw [show i + (j + 1) = i + 1 + j by omega]
        exact ih
    rcases w with x | q | x | u
    · exact one _ rfl h
    · exact one _ rfl h
    · have h : (vL x :: zpad n (vU :: zents r))[j]? = some v := h
      cases j with
      | zero => cases h; exact List.mem_cons_self
      | succ j =>
        have h : (zpad n (vU :: zents r))[j]? = some v := h
        cases n with
        | zero => simp [zpad] at h
        | succ n =>
          have h : (vU :: zpad n (zents r))[j]? = some v := h
          cases j with
          | zero => cases h; cases hu
          | succ j =>
            have h : (zpad n (zents r))[j]? = some v := h
            have ih := zent_at r (i + 2) n j v h hu
            refine List.mem_cons_of_mem _ ?_
            rw [if_pos (show (zrv b base (Sum.inr (Sum.inr (Sum.inl x)))).category = 2 from rfl)]
            rw [show i + (j + 1 + 1) = i + 2 + j by omega]
            exact ih
    · exact one _ rfl h
/-- a method's entry -/
theorem zentry {y1 : Nat} {as1 : List zV} (hR : zRel b base D s h H) (hok : ∀ v ∈ as1, zok h v ∧ zun v = false) (hsz : (zents as1).length ≤ zLM y1) (hnl : znl y1 = true → ∀ v ∈ as1, zlong v = false) :
    zfrm b base D s y1 (zpad (zLM y1) (zents as1)) [] h H [] ((lg_sl (as1.map (zrv b base)) ++ List.replicate (zLM y1 - (lg_sl (as1.map (zrv b base))).length) Slot.unset).toArray) := by
  have hl := lv_entry (as1.map (zrv b base)) (n := zLM y1) (by rw [zents_len as1 (fun v hv => (hok v hv).2)]; exact hsz)
  refine ⟨hR, fun q hq => absurd hq List.not_mem_nil, zpad_len _ _, ⟨hl.1, hl.2.1, fun q hq => hl.2.2 q ?_⟩, fun v hv => ?_, fun v hv => absurd hv List.not_mem_nil, fun hz v hv => ?_⟩
  · obtain ⟨v, h1, h2, h3⟩ := zal_mem.mp hq
    have := zent_at (b := b) (base := base) as1 0 _ _ v h1 h2
    rw [Nat.zero_add, ← h3] at this
    exact this
  · rcases zpad_mem _ _ v hv with hv | rfl
    · rcases zents_mem _ v hv with hv | rfl
      · exact (hok v hv).1
      · trivial
    · trivial
  · rcases zpad_mem _ _ v hv with hv | rfl
    · rcases zents_mem _ v hv with hv | rfl
      · exact hnl hz v hv
      · rfl
    · rfl
theorem zNst_form : ∀ w ∈ zNst, ∃ (a1 : String) (i1 : Nat) (x1 : MethodName) (h1 : String), w = .methodLinkNest a1 i1 x1 h1 := by
  intro w hw
  unfold zNst at hw
  simp only [List.mem_cons, List.not_mem_nil, or_false] at hw
  rcases hw with rfl | rfl | rfl | rfl | rfl | rfl | rfl | rfl | rfl | rfl | rfl | rfl | rfl | rfl | rfl | rfl | rfl | rfl | rfl | rfl | rfl | rfl <;> exact ⟨_, _, _, _, rfl⟩
theorem zNx.warm {U : State} (hW : s.WarmedH U.vm) (hN : zNx s) : zNx U := by
  refine ⟨fun w hw => ?_, va_AO.moved hW.alike hN.2.1, va_AO.moved hW.alike hN.2.2.1, va_AO.moved hW.alike hN.2.2.2⟩
  obtain ⟨a1, i1, x1, h1, rfl⟩ := zNst_form w hw
  exact va_Nw.warmM hW (hN.1 _ hw)
theorem zNx.same {U V : State} (hv : U.vm = V.vm) (hN : zNx U) : zNx V := by
  refine ⟨fun w hw => ?_, va_AO.moved (by rw [hv]; exact Vm.Alike.refl _) hN.2.1, va_AO.moved (by rw [hv]; exact Vm.Alike.refl _) hN.2.2.1, va_AO.moved (by rw [hv]; exact Vm.Alike.refl _) hN.2.2.2⟩
  obtain ⟨a1, i1, x1, h1, rfl⟩ := zNst_form w hw
  exact va_Nw.same rfl hv (hN.1 _ hw)
/-- a contract of the small machine -/
def zwsl (y : Nat) : List Cond := Cond.code (zNm y) (zB y) (zLM y) (zRt y) :: zwd
def zrm (y mc ms : Nat) : Room := { frames := zFr y, cells := mc, slots := ms, locals := zLo y }
def zPc (b base : Nat) (D : va_G) (as1 : List zV) (h : zH) : Array Value → State → Prop := fun a U => a = (as1.map (zrv b base)).toArray ∧ zRel b base D U h U.heap ∧ zNx U
def zQc (b base : Nat) (D : va_G) (r0 : Option zV) (hf : zH) : Array Value → State → Outcome → State → Prop := fun _ _ o1 t => o1 = .returned (r0.map (zrv b base)) ∧ zRel b base D t hf t.heap ∧ ∀ v, r0 = some v → zok hf v ∧ zun v = false
def zMet (l : Launch) (b base : Nat) (D : va_G) (y : Nat) (as1 : List zV) (h : zH) (r0 : Option zV) (hf : zH) : Prop :=
  Met l (zNm y) (zwsl y) (zrm y (nx hf - nx h) (sc hf - sc h)) (zPc b base D as1 h) (zQc b base D r0 hf) (nx hf - nx h) (sc hf - sc h) (fun q => base ≤ q)
theorem zPc_blind {as1 : List zV} : FrameBlind (zPc b base D as1 h) := fun a U g mk q => ⟨q.1, zRel.moved (t := U.calling g mk a) (Vm.Alike.refl U.vm) q.2.1, zNx.same (U := U) (V := U.calling g mk a) rfl q.2.2⟩
/-- behind a call -/
theorem zafter {hf : zH} {r0 : Option zV} {mc ms : Nat} {st0 restV : List Value} {a0 : Array Value} (hr : va_Run p l e R s m args below meth c H locs cells slots mc ms (F0 m pc lsr st0) restV (zQc b base D r0 hf a0) (fun q => base ≤ q))
    (kk : ∀ (H1 : Heap) (locs1 : List Loc), zRel b base D s hf H1 → (∀ v, r0 = some v → zok hf v ∧ zun v = false) → ((∀ q ∈ locs, base ≤ q.base) → ∀ q ∈ locs1, base ≤ q.base) → W p l e R s m args below meth c H1 locs1 (cells + mc) (slots + ms) Q (F0 m (pc + 3) lsr ((r0.map (zrv b base)).toList ++ restV))) : W p l e R s m args below meth c H locs cells slots Q (F0 m pc lsr st0) := by
  intro T hT X
  obtain ⟨v, st₀, t, T', L, h0, X', hL, e1, e2, ⟨q1, q2, q3⟩, stp⟩ := hr T hT X
  cases q1
  have hvm : t.vm.Alike s.vm := by rw [← e2]; exact X'.warmed.alike.symm
  have hR1 : zRel b base D s hf T'.heap := by rw [e1]; exact q2.moved hvm
  obtain ⟨t2, a1, b1⟩ := kk T'.heap (locs ++ L) hR1 q3 (fun z q hq => by
    rcases List.mem_append.mp hq with w | w
    · exact z q w
    · exact hL q w) T' rfl X'
  exact ⟨t2, stp t2 a1, b1⟩
end ZM
