/-! ===== J and Cn ===== -/
/-- how many slots the first n cells have -/
def jsz (q : Nat × Nat) : Nat := if q.1 = 0 then (jft q.2).length else q.2
def sl : Nat → Nat
  | 0 => 0
  | n + 1 => sl n + jsz (kd ((n : Int) + 1))
theorem sl_le {a b : Nat} (h : a ≤ b) : sl a ≤ sl b := by
  induction b with
  | zero => rw [Nat.le_zero.mp h]; exact Nat.le_refl _
  | succ b ih =>
    rcases Nat.lt_or_ge a (b + 1) with h1 | h1
    · exact Nat.le_trans (ih (Nat.le_of_lt_succ h1)) (Nat.le_add_right _ _)
    · rw [Nat.le_antisymm h h1]; exact Nat.le_refl _
def jtys (E : jE) : List (ClassId × FieldType) := [(E.2.2.2.2 1, .int), (E.2.2.2.2 2, .long), (E.2.2.2.2 3, .boolean), (E.2.2.2.2 4, .object RX1), (E.2.2.2.2 5, .object RX8)]
/-- the links between nest mates -/
def jnest : List Cond := [.methodLinkNest RX11 9 ⟨RX10, "<init>", "()V"⟩ RX11, .methodLinkNest RX11 21 ⟨RX1, "<init>", "()V"⟩ RX11, .methodLinkNest RX11 34 ⟨RX3, "<init>", "()V"⟩ RX11, .methodLinkNest RX11 41 ⟨RX2, "<init>", "()V"⟩ RX11, .methodLinkNest RX11 48 ⟨RX0, "<init>", "()V"⟩ RX11, .methodLinkNest RX11 55 ⟨RX5, "<init>", "()V"⟩ RX11, .methodLinkNest RX11 69 ⟨RX6, "<init>", "()V"⟩ RX11, .methodLinkNest RX11 74 ⟨RX8, "<init>", "()V"⟩ RX11, .methodLinkNest RX7 15 ⟨RX1, "<init>", "()V"⟩ RX11, .methodLinkNest RX10 11 ⟨RX1, "<init>", "()V"⟩ RX11]
def jWords : String := "tires price join pour bake make day number pounds age full odd fund double crock if then else end and or not "
def jBytes : List Int32 := jWords.toList.map (fun c => Int32.ofNat c.toNat)
/-- what the tables say, in any state of the run -/
def jK (E : jE) (U : State) : Prop := va_K E.2.2.2.1 jcl (jtys E) U ∧ (∀ w ∈ jnest, va_Nw w U) ∧ va_AO RX1 U ∧ va_AO RX8 U
/-- what lies below the cells: the script, the text, String's own constant -/
def jS (E : jE) (U : State) : Prop := (va_X E.2.1.1 E.2.1.2.1 E.2.1.2.2 U U.heap ∧ E.2.1.1 ≤ E.1) ∧ vk_R RX3 152 jWords E.2.2.1.1 U ∧ vk_S 1 [jBytes.length] [jBytes] (fun _ => E.2.2.1.1) (fun _ => E.2.2.1.2) (jA E) U U.heap ∧ va_Z "java/lang/String" "COMPACT_STRINGS" "Z" (.int 1) (jA E) U U.heap ∧ va_Zq "jdk/internal/util/Preconditions" "SIOOBE_FORMATTER" "Ljava/util/function/BiFunction;" (jA E) U U.heap
def hasL (E : jE) (ls : Array Slot) (nL : Nat) (L : List jV) : Prop := L.length = nL ∧ ls.size = nL ∧ lv_wf ls ∧ ∀ (i : Nat) (v : jV), L[i]? = some v → v.1 ≠ 9 → ls[i]? = some (.val (conc E v))
/-- the facts of a method's frame -/
def Cx (m : jT) (d n0 hi : Nat) (E : jE) (p : Program) (R : Room) (s : State) (mi : MethodId) (args : Array Value) (meth : Method) (c : Code) : Prop :=
  p.tables.exec = Jvm.exec ∧ c.code = m.2.1 ∧ c.maxLocals = m.2.2.1 ∧ s.vm.findClass m.1.cls = some mi.cls ∧ (∀ w ∈ TT, w.before args s = true) ∧ jK E s ∧ jS E s ∧ (d ≤ R.frames ∧ 64 * d ≤ R.locals ∧ hi - n0 ≤ R.cells ∧ sl hi - sl n0 ≤ R.slots) ∧ s.heap.size = E.1 + n0 + 1 ∧ meth.name = m.1.name
/-- a return instruction at pc with the answer r -/
def jRok (rt : Option FieldType) (cc : ByteArray) (pc : Nat) (r : jV) (S : List jV) : Prop :=
  (rt = none ∧ decode cc pc = .ok (.return_, 1) ∧ S = [] ∧ r = uv) ∨ (rt = some .int ∧ decode cc pc = .ok (.ireturn, 1) ∧ S = [r] ∧ r.1 = 0) ∨ (rt = some .boolean ∧ decode cc pc = .ok (.ireturn, 1) ∧ S = [r] ∧ r.1 = 0 ∧ (r.2 = 0 ∨ r.2 = 1)) ∨ (rt = some .long ∧ decode cc pc = .ok (.lreturn, 1) ∧ S = [r] ∧ r.1 = 1) ∨ ((∃ C, rt = some (.object C)) ∧ decode cc pc = .ok (.areturn, 1) ∧ S = [r] ∧ r.1 = 2) ∨ (∃ ty, rt = some ty ∧ decode cc pc = .ok (.ireturn, 1) ∧ S = [r] ∧ r.1 = 0 ∧ (ty = .byte ∧ r.2 = 0 ∨ ty = .char ∧ narrow .char (.int (Int32.ofInt r.2)) = .int (Int32.ofInt r.2)))
def jRet (m : jT) (n0 hi : Nat) (E : jE) (p : Program) (l : Launch) (e : Env) (R : Room) (s : State) (mi : MethodId) (args : Array Value) (below : List Frame) (meth : Method) (c : Code) (Q : State → Prop) (Post : jV → jG → jM → Prop) : Prop :=
  ∀ (r : jV) (G' : jG) (σ' : jM) (pc' : Nat) (ls' : Array Slot) (S' : List jV) (H' : Heap) (locs' : List Loc), Post r G' σ' → jRok m.2.2.2 m.2.1 pc' r S' → HW E G'.2 G'.1 σ' H' → va_S (jA E) s.heap H' locs' → G'.2 = hi → W p l e R s mi args below meth c H' locs' (hi - n0) (sl hi - sl n0) Q (F0 mi pc' ls' (S'.map (conc E)))
/-- THE JUDGEMENT: method m, at pc with these locals, this stack, these cells, comes to a return with Post -/
def J (m : jT) (d n0 hi : Nat) (Post : jV → jG → jM → Prop) (pc : Nat) (L S : List jV) (G : jG) (σ : jM) : Prop :=
  ∀ (E : jE) (p : Program) (l : Launch) (e : Env) (R : Room) (s : State) (mi : MethodId) (args : Array Value) (below : List Frame) (meth : Method) (c : Code) (Q : State → Prop), Cx m d n0 hi E p R s mi args meth c → jRet m n0 hi E p l e R s mi args below meth c Q Post →
    ∀ (ls : Array Slot) (H : Heap) (locs : List Loc), hasL E ls m.2.2.1 L → HW E G.2 G.1 σ H → va_S (jA E) s.heap H locs → n0 ≤ G.2 → G.2 ≤ hi → W p l e R s mi args below meth c H locs (G.2 - n0) (sl G.2 - sl n0) Q (F0 mi pc ls (S.map (conc E)))
def jret (E : jE) (r : jV) : Option Value := if r.1 = 9 then none else some (conc E r)
def jpush (r : jV) (S : List jV) : List jV := if r.1 = 9 then S else r :: S
def jPre (E : jE) (G : jG) (σ : jM) (U : State) : Prop := HW E G.2 G.1 σ U.heap ∧ jK E U ∧ jS E U ∧ U.heap.size = E.1 + G.2 + 1
def jQc (E : jE) (hi : Nat) (Post : jV → jG → jM → Prop) : Array Value → State → Outcome → State → Prop := fun _ st oc t => (∃ (r : jV) (G' : jG) (σ' : jM), oc = .returned (jret E r) ∧ Post r G' σ' ∧ HW E G'.2 G'.1 σ' t.heap ∧ G'.2 = hi) ∧ va_F (jA E) st t
def jrm (d n k : Nat) : Room := { frames := d, cells := k, slots := sl (n + k) - sl n, locals := 64 * d }
/-- THE CONTRACT: a call of m with these arguments over these cells, d frames deep at most, k cells at most being made, ends with Post -/
def Cn (m : jT) (d k : Nat) (As : List jV) (G : jG) (σ : jM) (Post : jV → jG → jM → Prop) : Prop :=
  ∀ (l : Launch) (E : jE), Met l m.1 (.code m.1 m.2.1 m.2.2.1 m.2.2.2 :: TT) (jrm d G.2 k) (va_Pc (As.map (conc E)) (jPre E G σ)) (jQc E (G.2 + k) Post) k (sl (G.2 + k) - sl G.2) (jA E)
