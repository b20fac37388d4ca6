/-! to look -/
abbrev zNS : String := "java/util/NoSuchElementException"
def zNat : List Cond := vx_at0 "SyntaxRules" 133 zNS ["java/lang/RuntimeException", "java/lang/Exception"]
set_option maxRecDepth 1000000 in
theorem look_b : zNat.all (fun w => decide (w ∈ lw_tbl)) = true := by decide +kernel
set_option maxRecDepth 1000000 in
theorem look_c : (Cond.classLink "SyntaxRules" 131 zNS :: Cond.initialized zNS :: zNat).all vx_ot = true := by decide +kernel
set_option maxRecDepth 1000000 in
theorem look_d : Bundle.fit zNS = true ∧ Bundle.fit "java/lang/RuntimeException" = true ∧ Bundle.fit "java/lang/Exception" = true := by decide +kernel
set_option maxRecDepth 1000000 in
theorem look_f : goodWord (Cond.classLink "SyntaxRulesLaw" 13 zNS) = true ∧ goodWord (Cond.codeWith (zNm 261) (zB 261) 5 (some .int) [(0, 10, 13, 13)]) = true := by decide +kernel
set_option maxRecDepth 1000000 in
theorem look_a : zNat.filter (fun w => !goodWord w) = [.declares ⟨"java/lang/RuntimeException", "<init>", "()V"⟩, .declares ⟨"java/lang/Exception", "<init>", "()V"⟩, .declares ⟨"java/lang/Throwable", "<init>", "()V"⟩] := by decide +kernel
theorem look_e (s U : State) (L : List Loc) (k n : Nat) (h : s.sameButNew U L k n) : False := by
  unfold State.sameButNew at h
  exact h
theorem look_g (h : zNat = []) : False := by
  unfold zNat vx_at0 Bundle.ownAtoms0 at h
  exact h
theorem look_h {p : Program} {l : Launch} {e : Env} {R : Room} {s : State} {m : MethodId} {args : Array Value} {below : List Frame} {meth : Method} {c : Code} {T : State} {locs : List Loc} {cells slots : Nat} (X : Stand p l e R s m args below meth c T locs cells slots) : False := by
  have h := X.same
  exact h
theorem look_i (hh : List (Nat × Nat × Nat × Nat)) (h : tableOf hh = []) : False := by
  unfold tableOf at h
  exact h
