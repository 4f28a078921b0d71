/-! ===== the small machine: values, memory, phases ===== -/
abbrev mm_V : Type := Int ⊕ Option (Nat × Int)
abbrev mm_M : Type := Nat → Int → Int → Int
abbrev mm_B : Type := (Nat → Nat → Option (Nat × Int)) × List Nat
abbrev mm_X : Type := va_G × ClassId × ClassId × ClassId × ClassId
abbrev mm_in (x : Int) : Prop := -2147483648 ≤ x ∧ x < 2147483648
def mm_nth {α : Type} : List α → Nat → Option α
  | [], _ => none
  | a :: _, 0 => some a
  | _ :: r, n + 1 => mm_nth r n
def mm_set {α : Type} : List α → Nat → α → List α
  | [], _, _ => []
  | _ :: r, 0, v => v :: r
  | a :: r, n + 1, v => a :: mm_set r n v
def mm_dv {α : Type} (d : α) : Option α → α
  | none => d
  | some x => x
def mm_gk (g : Nat) : Nat × Nat × Nat := mm_dv (9, 0, 0) (mm_nth mm_gl g)
def mm_fr (c k : Nat) : Bool := mm_dv false (mm_nth (mm_dv [] (mm_nth mm_frl c)) k)
def mm_nr (g : Nat) : Nat := match mm_gk g with
  | (1, _, n) => n
  | (2, _, n) => n
  | (3, _, n) => n
  | _ => 1
def mm_up (w : mm_M) (g : Nat) (j k v : Int) : mm_M := fun g' j' k' => if g' = g ∧ j' = j ∧ k' = k then v else w g' j' k'
def mm_re (α : Nat → Int → Nat) : Option (Nat × Int) → Value
  | none => .null
  | some q => .ref (α q.1 q.2)
def mm_v (α : Nat → Int → Nat) : mm_V → Value
  | .inl x => .int (Int32.ofInt x)
  | .inr r => mm_re α r
def mm_ok (b : mm_B) : mm_V → Prop
  | .inl x => mm_in x
  | .inr none => True
  | .inr (some q) => q.1 ∈ b.2 ∧ 0 ≤ q.2 ∧ q.2 < mm_nr q.1
def mm_cA (X : mm_X) (k : Nat) : ClassId := if k = 1 then X.2.1 else if k = 2 then X.2.2.1 else X.2.2.2.1
def mm_fT (k : Nat) : FieldType := if k = 1 then .int else if k = 2 then .boolean else .char
def mm_ty (X : mm_X) : List (ClassId × FieldType) := [(X.2.1, .int), (X.2.2.1, .boolean), (X.2.2.2.1, .char), (X.2.2.2.2, .array .int)]
def mm_fv (α : Nat → Int → Nat) (b : mm_B) (w : mm_M) (g k : Nat) : Value := if mm_fr (mm_gk g).2.1 k = true then mm_re α (b.1 g k) else .int (Int32.ofInt (w g 0 k))
def mm_ce (X : mm_X) (α : Nat → Int → Nat) (b : mm_B) (w : mm_M) (g : Nat) (j : Int) : va_E :=
  if (mm_gk g).1 = 0 then .inr ((mm_gk g).2.1, (List.range (mm_gk g).2.2).map (mm_fv α b w g))
  else if (mm_gk g).1 = 4 then .inl (X.2.2.2.2, (mm_gk g).2.1, .inr (.inr (.inr (.inr (fun k : Nat => if k < (mm_gk g).2.1 then some (α (mm_gk g).2.2 (k : Int)) else none)))))
  else .inl (mm_cA X (mm_gk g).1, (mm_gk g).2.1, .inl (fun k : Nat => Int32.ofInt (w g j (k : Int))))
def mm_ks (b : mm_B) : List (Nat × Int) := b.2.flatMap fun g => (List.range (mm_nr g)).map fun j : Nat => (g, (j : Int))
def mm_wl (X : mm_X) (α : Nat → Int → Nat) (b : mm_B) (w : mm_M) : va_W := (mm_ks b).map fun q => (α q.1 q.2, mm_ce X α b w q.1 q.2)
/-- the references of a phase lead to what lives -/
def mm_ph (b : mm_B) : Prop := (∀ g ∈ b.2, ∀ k q, b.1 g k = some q → mm_ok b (.inr (some q))) ∧ ∀ g ∈ b.2, (mm_gk g).1 = 4 → (mm_gk g).2.2 ∈ b.2 ∧ mm_nr (mm_gk g).2.2 = (mm_gk g).2.1
def mm_rg (w : mm_M) : Prop := ∀ g j k, mm_in (w g j k)
def mm_Rp (X : mm_X) (α : Nat → Int → Nat) (b : mm_B) (w : mm_M) (H : Heap) (A : Nat → Prop) : Prop := va_P X.1 vwCl (mm_wl X α b w) H ∧ va_D A (mm_wl X α b w) ∧ mm_rg w ∧ mm_ph b
def mm_L (b : mm_B) (α : Nat → Int → Nat) (ls : List (Option mm_V)) (kls : Array Slot) (nL : Nat) : Prop :=
  ls.length = nL ∧ kls.size = nL ∧ lv_wf kls ∧ ∀ i v, mm_nth ls i = some (some v) → kls[i]? = some (.val (mm_v α v)) ∧ mm_ok b v
/-! ===== what else holds of the machine all the time: links to private constructors, the array class of int[][] ===== -/
def mm_nst : List Cond := [.methodLinkNest RX9 18 yX5_init "CubeChecker", .methodLinkNest RX9 38 yX0_init "CubeChecker", .methodLinkNest RX9 9 yX7_init "CubeChecker", .methodLinkNest RX7 17 yX5_init "CubeChecker"]
def va_AOA (ty : FieldType) (U : State) : Prop := (Cond.arrayOver (.array ty)).before #[] U = true
theorem va_AOA.use {ty : FieldType} {A : Array Value} {U : State} (h : va_AOA ty U) : (Cond.arrayOver (.array ty)).before A U = true := h
theorem va_AOA.moved {u U : State} (hvm : u.vm.Alike U.vm) (h : va_AOA .int u) : va_AOA .int U := by
  have h0 := h
  unfold va_AOA Cond.before at h0
  simp only [Cond.holds, Cond.value, beq_iff_eq] at h0
  cases hc : u.vm.findClass (FieldType.array .int).toString with
  | none => simp [hc] at h0
  | some comp =>
    simp only [hc, Option.bind_some, Option.bind_eq_some_iff, Option.map_eq_some_iff] at h0
    obtain ⟨c, hi, k, hk, hb⟩ := h0
    obtain ⟨k', hk', he⟩ := hvm.2.2 _ _ hk
    have hi2 : (U.vm.classes.findIdx? fun (x : Class) => match x.kind with | .array component _ => component == comp | _ => false) = some c := by
      have e1 := va_idx_bare U.vm comp
      have e2 := va_idx_bare u.vm comp
      have e3 : U.vm.bare = u.vm.bare := by first | exact hvm.bare_eq | exact hvm.bare_eq.symm
      rw [e3] at e1
      exact (e1.symm.trans e2).trans hi
    have f1 : U.vm.findClass (FieldType.array .int).toString = some comp := by rw [hvm.findClass]; exact hc
    have hkind : k'.kind = k.kind := by rw [he]
    unfold va_AOA Cond.before Cond.holds
    simp only [Cond.value]
    rw [f1, Option.bind_some]
    refine (congrArg (fun o : Option Nat => (o.bind (fun c => (U.vm.classes[c]?).map fun (k : Class) => match k.kind with | .array _ ty => decide (ty = FieldType.array .int) && decide (U.vm.findClass ("[" ++ (FieldType.array .int).toString) = some c) | _ => false) == some true)) hi2).trans ?_
    rw [Option.bind_some, hk', Option.map_some, hkind, hvm.findClass]
    exact beq_iff_eq.mpr (congrArg some hb)
def mm_E (U : State) : Prop := (∀ w ∈ mm_nst, va_Nw w U) ∧ va_AOA .int U
theorem mm_E.warm {s U : State} (hW : s.WarmedH U.vm) (h : mm_E s) : mm_E U := by
  refine ⟨fun w hw => ?_, va_AOA.moved hW.alike h.2⟩
  have h1 := h.1 w hw
  rcases List.mem_cons.mp hw with rfl | hw
  · exact va_Nw.warmM hW h1
  rcases List.mem_cons.mp hw with rfl | hw
  · exact va_Nw.warmM hW h1
  rcases List.mem_cons.mp hw with rfl | hw
  · exact va_Nw.warmM hW h1
  rcases List.mem_cons.mp hw with rfl | hw
  · exact va_Nw.warmM hW h1
  · cases hw
theorem mm_E.same {u U : State} (h : u.vm = U.vm) (hE : mm_E u) : mm_E U := ⟨fun w hw => va_Nw.same (by
  rcases List.mem_cons.mp hw with rfl | hw
  · rfl
  rcases List.mem_cons.mp hw with rfl | hw
  · rfl
  rcases List.mem_cons.mp hw with rfl | hw
  · rfl
  rcases List.mem_cons.mp hw with rfl | hw
  · rfl
  · cases hw) h (hE.1 w hw), va_AOA.moved (by rw [h]; exact Vm.Alike.refl _) hE.2⟩
/-! ===== a method: name, code, locals' number, answer's type, own class, frames, words of locals, instructions, cuts, field links, method links ===== -/
abbrev mm_I : Type := Nat × Instr × Nat
abbrev mm_F : Type := Nat × Nat × Nat × Nat × Int
abbrev mm_K : Type := (MethodName × ByteArray × Nat × Option FieldType × String) × (Nat × Nat × Nat) × (List mm_I × List Nat × List mm_F × List (Nat × Nat × Nat × MethodName))
def mm_old (b0 b : mm_B) (α0 α : Nat → Int → Nat) : Prop := ∀ g ∈ b0.2, g ∈ b.2 ∧ ∀ j, α g j = α0 g j
def mm_Qc (X : mm_X) (α0 : Nat → Int → Nat) (b0 : mm_B) (A : Nat → Prop) (Q : Option mm_V → mm_B → mm_M → Prop) : Array Value → State → Outcome → State → Prop := fun _ st oc t =>
  (∃ (r : Option mm_V) (b' : mm_B) (w' : mm_M) (α' : Nat → Int → Nat), oc = .returned (r.map (mm_v α')) ∧ Q r b' w' ∧ (∀ v, r = some v → mm_ok b' v) ∧ mm_old b0 b' α0 α' ∧ mm_Rp X α' b' w' t.heap A ∧ va_K X.1 vwCl (mm_ty X) t) ∧ va_F A st t
/-- a field link: the place in the pool, the number of the class, the slot, 0 int 1 boolean 2 a reference -/
def mm_fok (own : String) (q : mm_F) : Prop := ∃ (C : String) (T : u_T) (N : Nat) (ty : Nat → FieldType), vwCl[q.2.1]? = some (C, T, N) ∧ (∀ w ∈ u_ws C T N, w ∈ tb_G) ∧ (∀ k, k < N → parseFieldDescriptor (T k).2.2.1 = some (ty k)) ∧ (∀ a, a < N → ∀ b, b < N → a ≠ b → (T a).2.1 ≠ (T b).2.1) ∧ q.2.2.1 < N ∧
  Cond.fieldLink own q.1 C (T q.2.2.1).2.1 (T q.2.2.1).2.2.1 ∈ tb_G ∧ (T q.2.2.1).1 = C ∧ mm_fr q.2.1 q.2.2.1 = Nat.beq q.2.2.2.1 2 ∧ (q.2.2.1 : Int) = q.2.2.2.2 ∧ (q.2.2.2.1 = 0 → ty q.2.2.1 = .int ∧ (T q.2.2.1).2.2.2 = false) ∧ (q.2.2.2.1 = 1 → ty q.2.2.1 = .boolean ∧ (T q.2.2.1).2.2.2 = false)
def mm_small (nL pc : Nat) : Instr → Bool
  | .bipush n => decide (-128 ≤ n ∧ n < 128)
  | .sipush n => decide (-32768 ≤ n ∧ n < 32768)
  | .iconst n => decide (-1 ≤ n ∧ n < 6)
  | .istore i => decide (i < nL)
  | .astore i => decide (i < nL)
  | .istore_n k => decide (k.val < nL)
  | .astore_n k => decide (k.val < nL)
  | .goto off => decide (0 ≤ (pc : Int) + off)
  | .ifCond _ off => decide (0 ≤ (pc : Int) + off)
  | .if_icmp _ off => decide (0 ≤ (pc : Int) + off)
  | .ifnull off => decide (0 ≤ (pc : Int) + off)
  | .ifnonnull off => decide (0 ≤ (pc : Int) + off)
  | _ => true
/-- how long an instruction is (0: of no fixed length here) -/
def mm_il : Instr → Nat
  | .bipush _ => 2
  | .sipush _ => 3
  | .iload _ => 2
  | .aload _ => 2
  | .istore _ => 2
  | .astore _ => 2
  | .iinc _ _ => 3
  | .getfield _ => 3
  | .putfield _ => 3
  | .ifCond _ _ => 3
  | .if_icmp _ _ => 3
  | .ifnull _ => 3
  | .ifnonnull _ => 3
  | .goto _ => 3
  | .invokevirtual _ => 3
  | .invokespecial _ => 3
  | .invokestatic _ => 3
  | .new _ => 3
  | .newarray _ => 2
  | .multianewarray _ _ => 4
  | .ldc _ => 0
  | .ldc_w _ => 3
  | .tableswitch _ _ _ _ => 0
  | .lookupswitch _ _ => 0
  | _ => 1
def mm_lok (own : String) (q : Nat × Nat × Nat × MethodName) : Prop :=
  (q.2.2.2.cls ≠ "java/lang/invoke/MethodHandle" ∧ q.2.2.2.cls ≠ "java/lang/invoke/VarHandle" ∧ (parseMethodDescriptor q.2.2.2.desc).map (fun d => d.parameters.length) = some q.2.2.1) ∧ Cond.initialized q.2.2.2.cls ∈ tb_G ∧
  (q.2.1 = 0 → Cond.methodLink own q.1 q.2.2.2 ∈ tb_G ∧ Cond.instanceMethod q.2.2.2 ∈ tb_G ∧ Cond.selects q.2.2.2.cls q.2.2.2 q.2.2.2 ∈ tb_G) ∧
  (q.2.1 = 1 → Cond.methodLink own q.1 q.2.2.2 ∈ tb_G ∧ Cond.static q.2.2.2 ∈ tb_G) ∧
  (q.2.1 = 2 → Cond.methodLink own q.1 q.2.2.2 ∈ tb_G ∧ Cond.instanceMethod q.2.2.2 ∈ tb_G ∧ q.2.2.2.name = "<init>") ∧
  (q.2.1 = 3 → Cond.methodLinkNest own q.1 q.2.2.2 "CubeChecker" ∈ mm_nst ∧ Cond.instanceMethod q.2.2.2 ∈ tb_G ∧ q.2.2.2.name = "<init>")
def mm_KO (K : mm_K) : Prop := (∀ q ∈ K.2.2.1, decode K.1.2.1 q.1 = .ok (q.2.1, q.2.2 - q.1) ∧ q.1 ≤ q.2.2 ∧ mm_small K.1.2.2.1 q.1 q.2.1 = true ∧ (mm_il q.2.1 = 0 ∨ q.2.2 = q.1 + mm_il q.2.1)) ∧ (∀ q ∈ K.2.2.2.2.1, mm_fok K.1.2.2.2.2 q) ∧ ∀ q ∈ K.2.2.2.2.2, mm_lok K.1.2.2.2.2 q
def mm_Cx (K : mm_K) (p : Program) (R : Room) (s : State) (m : MethodId) (args : Array Value) (meth : Method) (c : Code) (X : mm_X) : Prop :=
  p.tables.exec = Jvm.exec ∧ c.code = K.1.2.1 ∧ c.maxLocals = K.1.2.2.1 ∧ meth.sig.returnType = K.1.2.2.2.1 ∧ meth.locks = false ∧ s.vm.findClass K.1.2.2.2.2 = some m.cls ∧ (∀ w ∈ tb_G, w.before args s = true) ∧ va_K X.1 vwCl (mm_ty X) s ∧ meth.name = K.1.1.name ∧ R.frames = K.2.1.1 ∧ R.locals = K.2.1.2.1 ∧ mm_KO K ∧ mm_E s
/-! ===== the class's own text constant: where it lies, what it holds (only the class's constructor asks for it) ===== -/
def mm_txt : String := "p43;v02;v00;c005;c015;c301;c201;c107;e0190410;e1201201;e2190410;e1320000;"
def mm_tb : List Int32 := [112, 52, 51, 59, 118, 48, 50, 59, 118, 48, 48, 59, 99, 48, 48, 53, 59, 99, 48, 49, 53, 59, 99, 51, 48, 49, 59, 99, 50, 48, 49, 59, 99, 49, 48, 55, 59, 101, 48, 49, 57, 48, 52, 49, 48, 59, 101, 49, 50, 48, 49, 50, 48, 49, 59, 101, 50, 49, 57, 48, 52, 49, 48, 59, 101, 49, 51, 50, 48, 48, 48, 48, 59]
def mm_lit (K : mm_K) : Bool := Nat.beq K.2.1.2.1 126 && Nat.beq K.1.2.2.1 2
def mm_LitZ (s : State) (A : Nat → Prop) : Prop := ∃ adK adV : Nat → Nat, vk_S 1 [73] [mm_tb] adK adV A s s.heap ∧ vk_R RX9 43 mm_txt (adK 0) s ∧ va_Z "java/lang/String" "COMPACT_STRINGS" "Z" (.int 1) A s s.heap ∧ va_Zq "jdk/internal/util/Preconditions" "SIOOBE_FORMATTER" "Ljava/util/function/BiFunction;" A s s.heap
def mm_hA (K : mm_K) (s : State) (A : Nat → Prop) : Prop := (∀ q, s.heap.size ≤ q → A q) ∧ (mm_lit K = true → mm_LitZ s A)
def mm_Z (K : mm_K) (n : Nat × Nat) (ls : List (Option mm_V)) (st : List mm_V) (b : mm_B) (w : mm_M) (p : Program) (R : Room) (s : State) (m : MethodId) (args : Array Value) (meth : Method) (c : Code) (X : mm_X) (α0 : Nat → Int → Nat) (b0 : mm_B) (A : Nat → Prop) (H : Heap) (locs : List Loc) (cells slots : Nat) (α : Nat → Int → Nat) (kls : Array Slot) : Prop :=
  mm_Cx K p R s m args meth c X ∧ mm_Rp X α b w H A ∧ mm_hA K s A ∧ va_S A s.heap H locs ∧ mm_old b0 b α0 α ∧ mm_L b α ls kls K.1.2.2.1 ∧ (∀ v ∈ st, mm_ok b v) ∧ cells + n.1 ≤ R.cells ∧ slots + n.2 ≤ R.slots
/-- from this frame the method ends, with an answer and a memory that are in Q -/
def mm_Wk (K : mm_K) (n : Nat × Nat) (pc : Nat) (ls : List (Option mm_V)) (st : List mm_V) (b : mm_B) (w : mm_M) (Q : Option mm_V → mm_B → mm_M → Prop) : Prop :=
  ∀ (p : Program) (l : Launch) (e : Env) (R : Room) (s : State) (m : MethodId) (args : Array Value) (below : List Frame) (meth : Method) (c : Code) (X : mm_X) (α0 : Nat → Int → Nat) (b0 : mm_B) (A : Nat → Prop) (H : Heap) (locs : List Loc) (cells slots : Nat) (α : Nat → Int → Nat) (kls : Array Slot),
    mm_Z K n ls st b w p R s m args meth c X α0 b0 A H locs cells slots α kls →
    W p l e R s m args below meth c H locs cells slots (MQ below (mm_Qc X α0 b0 A Q) args s R.cells R.slots A) (F0 m pc kls (st.map (mm_v α)))
/-! ===== what an instruction does ===== -/
def mm_and (x y : Int) : Int := (Int32.ofInt x &&& Int32.ofInt y).toInt
def mm_or (x y : Int) : Int := (Int32.ofInt x ||| Int32.ofInt y).toInt
def mm_xor (x y : Int) : Int := (Int32.ofInt x ^^^ Int32.ofInt y).toInt
def mm_shl (x y : Int) : Int := (Int32.ofInt x <<< (Int32.ofInt y &&& 31)).toInt
def mm_shr (x y : Int) : Int := (Int32.ofInt x >>> (Int32.ofInt y &&& 31)).toInt
def mm_fits : Nat → Int → Prop → Prop
  | 2, x, a => a ∧ (0 ≤ x ∧ x ≤ 1)
  | 3, x, a => a ∧ (0 ≤ x ∧ x < 65536)
  | _, _, a => a
def mm_lnk : List mm_F → Nat → Option mm_F
  | [], _ => none
  | q :: r, i => match Nat.beq q.1 i with
    | true => some q
    | false => mm_lnk r i
abbrev mm_R : Type := List (Option mm_V) × List mm_V × mm_M × Prop
def mm_get (f : Option mm_F) (ls : List (Option mm_V)) (g : Nat) (st : List mm_V) (b : mm_B) (w : mm_M) (a : Prop) : Option mm_R :=
  match f with
  | none => none
  | some (_, c, k, t, ki) => match mm_gk g with
    | (0, c', _) => match Nat.beq c c', Nat.beq t 2 with
      | true, true => some (ls, .inr (b.1 g k) :: st, w, a)
      | true, false => some (ls, .inl (w g 0 ki) :: st, w, a)
      | false, _ => none
    | _ => none
def mm_put (f : Option mm_F) (ls : List (Option mm_V)) (g : Nat) (v : Int) (st : List mm_V) (w : mm_M) (a : Prop) : Option mm_R :=
  match f with
  | none => none
  | some (_, c, k, t, ki) => match mm_gk g with
    | (0, c', _) => match Nat.beq c c', t with
      | true, 0 => some (ls, st, mm_up w g 0 ki v, a)
      | true, 1 => some (ls, st, mm_up w g 0 ki v, a ∧ (0 ≤ v ∧ v ≤ 1))
      | _, _ => none
    | _ => none
def mm_ld (k : Nat) (ls : List (Option mm_V)) (g : Nat) (j i : Int) (st : List mm_V) (w : mm_M) (a : Prop) : Option mm_R :=
  match mm_gk g with
  | (k', n, _) => match Nat.beq k k' with
    | true => some (ls, .inl (w g j i) :: st, w, a ∧ (0 ≤ i ∧ i < n))
    | false => none
def mm_sto (k : Nat) (ls : List (Option mm_V)) (g : Nat) (j i v : Int) (st : List mm_V) (w : mm_M) (a : Prop) : Option mm_R :=
  match mm_gk g with
  | (k', n, _) => match Nat.beq k k' with
    | true => some (ls, st, mm_up w g j i v, mm_fits k v (a ∧ (0 ≤ i ∧ i < n)))
    | false => none
def mm_lda (ls : List (Option mm_V)) (g : Nat) (i : Int) (st : List mm_V) (w : mm_M) (a : Prop) : Option mm_R :=
  match mm_gk g with
  | (4, n, g') => some (ls, .inr (some (g', i)) :: st, w, a ∧ (0 ≤ i ∧ i < n))
  | _ => none
def mm_len (ls : List (Option mm_V)) (g : Nat) (st : List mm_V) (w : mm_M) (a : Prop) : Option mm_R :=
  match mm_gk g with
  | (1, n, _) => some (ls, .inl (n : Int) :: st, w, a)
  | _ => none
def mm_ldv (t : Bool) (ls : List (Option mm_V)) (st : List mm_V) (w : mm_M) (a : Prop) : Option (Option mm_V) → Option mm_R
  | some (some v) => match t, v with
    | true, .inr (some q) => some (ls, .inr (some q) :: st, w, a)
    | false, .inl x => some (ls, .inl x :: st, w, a)
    | _, _ => none
  | _ => none
/-- one instruction, but for branches, calls, ends and what is made -/
def mm_st (fl : List mm_F) (i : Instr) (ls : List (Option mm_V)) (st : List mm_V) (b : mm_B) (w : mm_M) (a : Prop) : Option mm_R :=
  match i, st with
  | .iconst n, st => some (ls, .inl n :: st, w, a)
  | .bipush n, st => some (ls, .inl n :: st, w, a)
  | .sipush n, st => some (ls, .inl n :: st, w, a)
  | .iload i, st => mm_ldv false ls st w a (mm_nth ls i)
  | .iload_n k, st => mm_ldv false ls st w a (mm_nth ls k.val)
  | .aload i, st => mm_ldv true ls st w a (mm_nth ls i)
  | .aload_n k, st => mm_ldv true ls st w a (mm_nth ls k.val)
  | .istore i, .inl x :: st => some (mm_set ls i (some (.inl x)), st, w, a)
  | .istore_n k, .inl x :: st => some (mm_set ls k.val (some (.inl x)), st, w, a)
  | .astore i, .inr (some q) :: st => some (mm_set ls i (some (.inr (some q))), st, w, a)
  | .astore_n k, .inr (some q) :: st => some (mm_set ls k.val (some (.inr (some q))), st, w, a)
  | .iinc i n, st => match mm_nth ls i with
    | some (some (.inl x)) => some (mm_set ls i (some (.inl (x + n))), st, w, a ∧ mm_in (x + n))
    | _ => none
  | .iadd, .inl y :: .inl x :: st => some (ls, .inl (x + y) :: st, w, a ∧ mm_in (x + y))
  | .isub, .inl y :: .inl x :: st => some (ls, .inl (x - y) :: st, w, a ∧ mm_in (x - y))
  | .imul, .inl y :: .inl x :: st => some (ls, .inl (x * y) :: st, w, a ∧ mm_in (x * y))
  | .idiv, .inl y :: .inl x :: st => some (ls, .inl (x / y) :: st, w, a ∧ (0 ≤ x ∧ 0 < y))
  | .irem, .inl y :: .inl x :: st => some (ls, .inl (x % y) :: st, w, a ∧ (0 ≤ x ∧ 0 < y))
  | .iand, .inl y :: .inl x :: st => some (ls, .inl (mm_and x y) :: st, w, a)
  | .ior, .inl y :: .inl x :: st => some (ls, .inl (mm_or x y) :: st, w, a)
  | .ixor, .inl y :: .inl x :: st => some (ls, .inl (mm_xor x y) :: st, w, a)
  | .ishl, .inl y :: .inl x :: st => some (ls, .inl (mm_shl x y) :: st, w, a)
  | .ishr, .inl y :: .inl x :: st => some (ls, .inl (mm_shr x y) :: st, w, a)
  | .ineg, .inl x :: st => some (ls, .inl (-x) :: st, w, a ∧ mm_in (-x))
  | .i2c, .inl x :: st => some (ls, .inl x :: st, w, a ∧ (0 ≤ x ∧ x < 65536))
  | .dup, v :: st => some (ls, v :: v :: st, w, a)
  | .dup2, v :: u :: st => some (ls, v :: u :: v :: u :: st, w, a)
  | .pop, _ :: st => some (ls, st, w, a)
  | .getfield i, .inr (some (g, _)) :: st => mm_get (mm_lnk fl i) ls g st b w a
  | .putfield i, .inl v :: .inr (some (g, _)) :: st => mm_put (mm_lnk fl i) ls g v st w a
  | .iaload, .inl i :: .inr (some (g, j)) :: st => mm_ld 1 ls g j i st w a
  | .baload, .inl i :: .inr (some (g, j)) :: st => mm_ld 2 ls g j i st w a
  | .caload, .inl i :: .inr (some (g, j)) :: st => mm_ld 3 ls g j i st w a
  | .iastore, .inl v :: .inl i :: .inr (some (g, j)) :: st => mm_sto 1 ls g j i v st w a
  | .bastore, .inl v :: .inl i :: .inr (some (g, j)) :: st => mm_sto 2 ls g j i v st w a
  | .castore, .inl v :: .inl i :: .inr (some (g, j)) :: st => mm_sto 3 ls g j i v st w a
  | .aaload, .inl i :: .inr (some (g, _)) :: st => mm_lda ls g i st w a
  | .arraylength, .inr (some (g, _)) :: st => mm_len ls g st w a
  | _, _ => none
