/-! ===== the words that every method takes: all good ones of the tables ===== -/
def gt : List Cond := lw_tbl.filter goodWord
theorem gt_of {w : Cond} (h : w ∈ lw_tbl) (g : goodWord w = true) : w ∈ gt := List.mem_filter.mpr ⟨h, g⟩
theorem gt_t {w : Cond} (i : Nat) (h : tables_1[i]? = some w) (g : goodWord w = true) : w ∈ gt := gt_of (List.mem_append_right _ (List.mem_of_getElem? h)) g
theorem gt_s {w : Cond} (i : Nat) (h : (k2_sels lw_privs)[i]? = some w) (g : goodWord w = true) : w ∈ gt := gt_of (List.mem_append_left _ (List.mem_of_getElem? h)) g
theorem gt_good {w : Cond} (h : w ∈ gt) : (w.onTables && w.keeps) = true ∨ ∃ ty, w = .arrayClass ty := good_of_word (List.mem_filter.mp h).2
theorem gt_in {ws : List Cond} (h : ∀ w ∈ ws, w ∈ gt) : GoodIn gt ws := fun w hw => ⟨h w hw, gt_good (h w hw)⟩
/-- a method's words: its code, and all -/
def mws (y : MethodName) (b : ByteArray) (n : Nat) (r : Option FieldType) : List Cond := .code y b n r :: gt
theorem mws_in {y : MethodName} {b : ByteArray} {n : Nat} {r : Option FieldType} (h : Cond.code y b n r ∈ gt) : GoodIn gt (mws y b n r) := gt_in fun w hw => (List.mem_cons.mp hw).elim (fun e => e ▸ h) id
/-! ===== the heap as tables: kinds, lengths, ints, references; its size ===== -/
abbrev Hp : Type := (Nat → Nat) × (Nat → Nat) × (Nat → Nat → Nat → Int32) × (Nat → Nat → Nat → Option Nat) × Nat
def kd (S : Hp) (a : Nat) : Nat := S.1 a
def ln (S : Hp) (a : Nat) : Nat := S.2.1 a
def gI (S : Hp) (f a i : Nat) : Int32 := S.2.2.1 f a i
def gR (S : Hp) (f a i : Nat) : Option Nat := S.2.2.2.1 f a i
def sz (S : Hp) : Nat := S.2.2.2.2
def up3 {α : Type} (g : Nat → Nat → Nat → α) (f a i : Nat) (v : α) : Nat → Nat → Nat → α := fun f' a' i' => if f' = f ∧ a' = a ∧ i' = i then v else g f' a' i'
def sI (S : Hp) (f a i : Nat) (v : Int32) : Hp := (S.1, S.2.1, up3 S.2.2.1 f a i v, S.2.2.2.1, S.2.2.2.2)
def sR (S : Hp) (f a i : Nat) (v : Option Nat) : Hp := (S.1, S.2.1, S.2.2.1, up3 S.2.2.2.1 f a i v, S.2.2.2.2)
def nw (S : Hp) (k n : Nat) : Hp := (fun a => if a = S.2.2.2.2 then k else S.1 a, fun a => if a = S.2.2.2.2 then n else S.2.1 a, fun f a i => if a = S.2.2.2.2 then 0 else S.2.2.1 f a i, fun f a i => if a = S.2.2.2.2 then none else S.2.2.2.1 f a i, S.2.2.2.2 + 1)
theorem kd_sI (S : Hp) (f a i : Nat) (v : Int32) (b : Nat) : kd (sI S f a i v) b = kd S b := rfl
theorem kd_sR (S : Hp) (f a i : Nat) (v : Option Nat) (b : Nat) : kd (sR S f a i v) b = kd S b := rfl
theorem ln_sI (S : Hp) (f a i : Nat) (v : Int32) (b : Nat) : ln (sI S f a i v) b = ln S b := rfl
theorem ln_sR (S : Hp) (f a i : Nat) (v : Option Nat) (b : Nat) : ln (sR S f a i v) b = ln S b := rfl
theorem sz_sI (S : Hp) (f a i : Nat) (v : Int32) : sz (sI S f a i v) = sz S := rfl
theorem sz_sR (S : Hp) (f a i : Nat) (v : Option Nat) : sz (sR S f a i v) = sz S := rfl
theorem gI_sI (S : Hp) (f a i : Nat) (v : Int32) (f' a' i' : Nat) : gI (sI S f a i v) f' a' i' = if f' = f ∧ a' = a ∧ i' = i then v else gI S f' a' i' := rfl
theorem gI_sR (S : Hp) (f a i : Nat) (v : Option Nat) (f' a' i' : Nat) : gI (sR S f a i v) f' a' i' = gI S f' a' i' := rfl
theorem gR_sI (S : Hp) (f a i : Nat) (v : Int32) (f' a' i' : Nat) : gR (sI S f a i v) f' a' i' = gR S f' a' i' := rfl
theorem gR_sR (S : Hp) (f a i : Nat) (v : Option Nat) (f' a' i' : Nat) : gR (sR S f a i v) f' a' i' = if f' = f ∧ a' = a ∧ i' = i then v else gR S f' a' i' := rfl
theorem kd_nw (S : Hp) (k n b : Nat) : kd (nw S k n) b = if b = sz S then k else kd S b := rfl
theorem ln_nw (S : Hp) (k n b : Nat) : ln (nw S k n) b = if b = sz S then n else ln S b := rfl
theorem gI_nw (S : Hp) (k n f a i : Nat) : gI (nw S k n) f a i = if a = sz S then 0 else gI S f a i := rfl
theorem gR_nw (S : Hp) (k n f a i : Nat) : gR (nw S k n) f a i = if a = sz S then none else gR S f a i := rfl
theorem sz_nw (S : Hp) (k n : Nat) : sz (nw S k n) = sz S + 1 := rfl
/-! ===== the launch's constants: classes, array classes, the first own address, INVERSE, the texts ===== -/
abbrev Zt : Type := va_G × (Nat → ClassId) × Nat × Nat × (Nat → Nat) × (Nat → Nat)
def zD (z : Zt) : va_G := z.1
def zA (z : Zt) : Nat → ClassId := z.2.1
def zb (z : Zt) : Nat := z.2.2.1
def zI (z : Zt) : Nat := z.2.2.2.1
def zK (z : Zt) : Nat → Nat := z.2.2.2.2.1
def zV (z : Zt) : Nat → Nat := z.2.2.2.2.2
def own (z : Zt) : Nat → Prop := fun q => zb z ≤ q
/-- how many fields a class of vwCl has, and which of them are ints -/
def nFl : List Nat := [5, 7, 4, 6, 4, 3, 3, 8, 6, 3, 2, 7, 14]
def isIl : List (List Bool) := [[true, true, true, true, true], [false, false, true, true, false, false, false], [false, true, true, true], [false, true, false, false, true, true], [false, false, true, true], [false, true, true], [false, false, true], [false, false, true, true, true, true, true, true], [false, false, false, false, true, true], [false, true, true], [false, true], [false, false, false, false, false, false, false], [false, true, false, true, true, true, true, true, true, false, false, false, false, false]]
def fV (S : Hp) (ci k a : Nat) : Value := if (isIl.getD ci []).getD k true then .int (gI S (16 * ci + k + 1) a 0) else va_rf (gR S (16 * ci + k + 1) a 0)
def Pic (z : Zt) (S : Hp) (H : Heap) : Prop :=
  H.size = sz S ∧ ∀ a, kd S a ≠ 0 → (zb z ≤ a ∧ a < sz S) ∧ (∀ ci N, kd S a = ci + 1 → nFl[ci]? = some N → t_OB a ((zD z).1 ci) N ((zD z).2 ci) H (fun k => fV S ci k a)) ∧ (kd S a = 20 → H[a]? = some (arrV (zA z 0) (ln S a) (fun j => .int (gI S 0 a j)))) ∧ (∀ j, 0 < j → kd S a = 20 + j → H[a]? = some (arrV (zA z j) (ln S a) (fun i => va_rf (gR S 0 a i))))
def tyl (z : Zt) : List (ClassId × FieldType) := [(zA z 0, .int), (zA z 1, .object "FirstParts$Clause"), (zA z 2, .object "FirstParts$Packet"), (zA z 3, .object "FirstParts$Part"), (zA z 4, .object "FirstParts$Step"), (zA z 5, .array .int)]
def nestL : List (String × Nat × MethodName) := [("FirstParts$Reader", 21, ⟨"FirstParts$Clause", "<init>", "()V"⟩), ("FirstParts$Part", 26, ⟨"FirstParts", "stripesFor", "(II)I"⟩), ("FirstParts$Packed", 69, ⟨"FirstParts", "valueAt", "([IIII)I"⟩), ("FirstParts$Packet", 32, ⟨"FirstParts", "within", "(III)Z"⟩), ("FirstParts$Reader", 102, ⟨"FirstParts", "within", "(III)Z"⟩), ("FirstParts$Text", 32, ⟨"FirstParts", "within", "(III)Z"⟩), ("FirstParts$Line", 30, ⟨"FirstParts", "within", "(III)Z"⟩), ("FirstParts$Part", 20, ⟨"FirstParts", "within", "(III)Z"⟩), ("FirstParts$Packed", 77, ⟨"FirstParts", "within", "(III)Z"⟩), ("FirstParts$Curve", 61, ⟨"FirstParts", "valueAt", "([IIII)I"⟩), ("FirstParts$Curve", 57, ⟨"FirstParts", "within", "(III)Z"⟩), ("FirstParts$Planner", 63, ⟨"FirstParts", "stripesFor", "(II)I"⟩)]
def aoL : List String := ["FirstParts$Clause", "FirstParts$Packet", "FirstParts$Part", "FirstParts$Step"]
def invT (j : Nat) : Int32 := ([0, 1, 15, 10, 22, 6, 5, 25, 11, 13, 3, 8, 17, 9, 27, 2, 20, 12, 21, 26, 16, 18, 4, 24, 23, 7, 19, 14, 28] : List Int32).getD j 0
def txL : List (Nat × String) := [(51, "all"), (60, "packets"), (66, "room"), (68, "part")]
def txN : List Nat := [3, 7, 4, 4]
def txB : List (List Int32) := [[97, 108, 108], [112, 97, 99, 107, 101, 116, 115], [114, 111, 111, 109], [112, 97, 114, 116]]
/-- the array class over int[] -/
def aoA (U : State) : Prop := (Cond.arrayOver (.array .int)).before #[] U = true
theorem aoA_moved {u U : State} (hvm : u.vm.Alike U.vm) (h : aoA u) : aoA U := by
  have h2 : (Cond.arrayOver (.array .int)).before #[] (u.setVm U.vm) = true := by
    rw [Cond.arrayOver_setVmC hvm]
    exact h
  exact h2
/-- what stays true of the launch, at a state and a heap -/
def Ev (z : Zt) (U : State) (H : Heap) : Prop :=
  va_K (zD z) vwCl (tyl z) U ∧ (∀ q ∈ nestL, va_Nw (.methodLinkNest q.1 q.2.1 q.2.2 "FirstParts") U) ∧ (∀ C ∈ aoL, va_AO C U) ∧ va_Z "FirstParts$Curve" "INVERSE" "[I" (.ref (zI z)) (own z) U H ∧ va_T .int (zI z) 29 (fun j => .int (invT j)) (own z) U H ∧ vk_S 4 txN txB (zK z) (zV z) (own z) U H ∧ (∀ i q, txL[i]? = some q → vk_R "FirstParts$Reader" q.1 q.2 (zK z i) U) ∧ aoA U ∧ va_Z "java/lang/String" "COMPACT_STRINGS" "Z" (.int 1) (own z) U H ∧ va_Zq "jdk/internal/util/Preconditions" "SIOOBE_FORMATTER" "Ljava/util/function/BiFunction;" (own z) U H
theorem Ev.warm {z : Zt} {s U : State} {H H1 : Heap} (h : Ev z s H) (hW : s.WarmedH U.vm) (hq : ∀ a : Nat, a < H.size → ¬ own z a → H1[a]? = H[a]?) : Ev z U H1 :=
  ⟨va_K.moved hW.alike h.1, fun q hm => va_Nw.warmM hW (h.2.1 q hm), fun C hC => va_AO.moved hW.alike (h.2.2.1 C hC), (va_Z.moved hW.alike h.2.2.2.1).kept hq, (va_T.moved hW.alike h.2.2.2.2.1).kept hq, (vk_S.moved hW.alike h.2.2.2.2.2.1).kept hq, fun i q hi => vk_R.warm hW (h.2.2.2.2.2.2.1 i q hi), aoA_moved hW.alike h.2.2.2.2.2.2.2.1, (va_Z.moved hW.alike h.2.2.2.2.2.2.2.2.1).kept hq, (va_Zq.moved hW.alike h.2.2.2.2.2.2.2.2.2).kept hq⟩
theorem Ev.same {z : Zt} {s U : State} {H : Heap} (h : Ev z s H) (hv : U.vm = s.vm) : Ev z U H :=
  have ha : s.vm.Alike U.vm := by rw [hv]; exact Vm.Alike.refl s.vm
  ⟨va_K.moved ha h.1, fun q hm => va_Nw.same rfl hv.symm (h.2.1 q hm), fun C hC => va_AO.moved ha (h.2.2.1 C hC), va_Z.moved ha h.2.2.2.1, va_T.moved ha h.2.2.2.2.1, vk_S.moved ha h.2.2.2.2.2.1, fun i q hi => vk_R.same hv (h.2.2.2.2.2.2.1 i q hi), aoA_moved ha h.2.2.2.2.2.2.2.1, va_Z.moved ha h.2.2.2.2.2.2.2.2.1, va_Zq.moved ha h.2.2.2.2.2.2.2.2.2⟩
