/-! What is checked of the code tables, by the kernel: that they are the class files' own. -/
theorem wd_mem {j i : Nat} {w : Cond} (h : wd j i = some w) : w ∈ lw_tbl := by
  have tb : ∀ w, w ∈ tables_1 → w ∈ lw_tbl := fun w hw => List.mem_append_right _ hw
  have key : ∀ {l : List Cond}, l[i]? = some w → w ∈ l := fun h => List.mem_of_getElem? h
  unfold wd at h
  split at h
  · exact List.mem_append_left _ (key h)
  all_goals first
    | (apply tb; unfold tables_1; simp only [List.mem_append]; have := key h; simp only [this, true_or, or_true])
    | cases h
def okW (j i : Nat) (w : Cond) : Bool := decide (wd j i = some w) && goodWord w
def okN' (j i : Nat) (w : Cond) : Bool := decide (wd j i = some w)
def kdTy : FieldType → Nat
  | .int | .boolean | .byte | .char | .short => 0
  | .long => 1
  | .object _ | .array _ => 2
  | _ => 3
def tyOf (t : Nat) : Nat → FieldType := match t with
  | 1 => tyX0
  | 2 => tyX1
  | 3 => tyX2
  | 4 => tyX3
  | 5 => tyX4
  | 6 => tyX5
  | 7 => tyX6
  | 8 => tyX7
  | 9 => tyX8
  | 10 => tyX9
  | 11 => tyX10
  | 12 => tyX11
  | 13 => tyX12
  | 20 => fun _ => .int
  | 21 => fun _ => .byte
  | 22 => fun _ => .long
  | 23 => fun _ => .boolean
  | 24 => fun _ => .object "PairTree$Grid"
  | 25 => fun _ => .object "PairTree$Box"
  | 26 => fun _ => .array .int
  | _ => fun _ => .int
def pcN (c : List Ent) (i : Nat) : Nat := match nth c i with
  | some e => e.2.1
  | none => 0
def ilen : Instr → Nat
  | .bipush _ | .ldc _ | .iload _ | .lload _ | .aload _ | .istore _ | .lstore _ | .astore _ | .newarray _ => 2
  | .sipush _ | .ldc_w _ | .ldc2_w _ | .iinc _ _ | .goto _ | .if_icmp _ _ | .ifCond _ _ | .ifnull _ | .ifnonnull _ | .getfield _ | .putfield _ | .getstatic _ | .invokestatic _ | .invokevirtual _ | .invokespecial _ | .new _ | .anewarray _ => 3
  | .multianewarray _ _ => 4
  | _ => 1
/-- the next entry lies behind this one -/
def okNx (c : List Ent) (i : Nat) (e : Ent) : Bool := match e.1 with
  | .goto _ | .ireturn | .areturn | .return_ | .athrow | .tableswitch _ _ _ _ | .lookupswitch _ _ | .nop => true
  | ins => pcN c (i + 1) == e.2.1 + ilen ins
def okDec (b : ByteArray) (e : Ent) : Bool := match e.1 with
  | .nop => true
  | .tableswitch _ _ _ _ | .lookupswitch _ _ => match decode b e.2.1 with
    | .ok (ins, _) => decide (ins = e.1)
    | _ => false
  | ins => decide (decode b e.2.1 = .ok (ins, ilen ins))
def okJ (c : List Ent) (i pc : Nat) (off : Int) (inf : List Nat) : Bool := match inf with
  | 1 :: s :: _ => decide ((pc : Int) + off = (pcN c (i + 1 + s) : Int))
  | 0 :: t :: _ => decide ((pc : Int) + off = (pcN c t : Int))
  | _ => false
def okTs (c : List Ent) (i pc : Nat) : List Int → List Nat → Bool
  | [], [] => true
  | o :: os, t :: ts => decide ((pc : Int) + o = (pcN c (i + 1 + t) : Int)) && okTs c i pc os ts
  | _, _ => false
def okFl (own : String) (idx tag k kd j i : Nat) : Bool := match vwCl[tag - 1]? with
  | some (_, T, N) => decide (1 ≤ tag) && decide (tag ≤ 13) && decide (k < N) && decide (kdTy (tyOf tag k) = kd) && okW j i (.fieldLink own idx (T k).1 (T k).2.1 (T k).2.2.1)
  | none => false
def okKd (tag k kd : Nat) : Bool := match kd with
  | 0 => decide (tyOf tag k = .int)
  | 1 => decide (tyOf tag k = .long)
  | 2 => decide (kdTy (tyOf tag k) = 2)
  | _ => decide (tyOf tag k = .boolean)
def okPf (own nm : String) (idx tag k kd j i : Nat) : Bool := match vwCl[tag - 1]? with
  | some (_, T, N) => decide (1 ≤ tag) && decide (tag ≤ 13) && decide (k < N) && okW j i (.fieldLink own idx (T k).1 (T k).2.1 (T k).2.2.1) &&
    okKd tag k kd &&
    (decide ((T k).2.2.2 = false) || (decide (nm = "<init>") && decide ((T k).1 = own)))
  | none => false
/-- of a method, once: its words -/
def okMt (t : Mth) : Bool := match t with
  | (y, _, maxL, rt, _, _, [c1, c2, s1, s2, i1, i2, e1, e2, n1, n2, n], _) =>
    (match wd c1 c2 with
      | some (.code y' _ m' r') => decide (y' = y) && decide (m' = maxL) && decide (r' = rt)
      | _ => false) &&
    decide (pcN t.code 0 = 0) && decide (maxL ≤ 30) && okW n1 n2 (.initialized y.cls) && decide (y.cls ≠ "java/lang/invoke/MethodHandle") && decide (y.cls ≠ "java/lang/invoke/VarHandle") && decide ((parseMethodDescriptor y.desc).map (fun d => d.parameters.length) = some n) && plainName y.cls &&
    (decide (s1 = 99) || okW s1 s2 (.static y)) && (decide (i1 = 99) || okW i1 i2 (.instanceMethod y)) && (decide (e1 = 99) || okW e1 e2 (.selects y.cls y y))
  | _ => false
noncomputable def okCal (lv : Nat) (own : String) (idx kd mid n rk nl tag dd nest j i : Nat) (lvs : Nat) : Bool := match Pg mid with
  | some (y, _, maxL, rt, lb, ls, [_, _, s1, _, i1, _, e1, _, _, _, na], _) =>
    decide (maxL = nl) && decide (n = na) && (match rk with
      | 0 => decide (rt = none)
      | 1 => decide (∃ ty ∈ rt, kdTy ty = 0)
      | _ => decide (∃ ty ∈ rt, kdTy ty = 2)) &&
    (if dd = 0 then decide (lb + ls * 8 < lv) else if dd = 1 then decide (lb < lv) && decide (ls = lvs) else decide (lb < lv + lvs) && decide (ls = lvs)) &&
    (match kd with
      | 0 => okW j i (.methodLink own idx y) && decide (s1 ≠ 99)
      | 1 => okW j i (.methodLink own idx y) && decide (i1 ≠ 99) && decide (e1 ≠ 99) && (match vwCl[tag - 1]? with
        | some (C, _, _) => decide (C = y.cls) && decide (1 ≤ tag) && decide (tag ≤ 13)
        | none => decide (tag = 30) && decide (y.cls = "java/lang/String"))
      | _ => decide (i1 ≠ 99) && decide (y.name = "<init>") && decide (rt = none) && (if nest = 1 then okN' j i (.methodLinkNest own idx y "PairTree") else okW j i (.methodLink own idx y)))
  | _ => false
def okNew (own : String) (idx tag n j1 i1 j2 i2 j3 i3 : Nat) : Bool := match vwCl[tag - 1]? with
  | some (C, _, N) => decide (1 ≤ tag) && decide (tag ≤ 13) && decide (N = n) && okW j1 i1 (.classLink own idx C) && okW j2 i2 (.instantiable C N) && okW j3 i3 (.initialized C)
  | none => false
def okNa (a : ArrayType) (tag j k : Nat) : Bool := match a with
  | .int => decide (tag = 20) && okW j k (.arrayClass .int)
  | .byte => decide (tag = 21) && okW j k (.arrayClass .byte)
  | .long => decide (tag = 22) && okW j k (.arrayClass .long)
  | .boolean => decide (tag = 23) && okW j k (.arrayClass .boolean)
  | _ => false
noncomputable def okSp (t : Mth) (i : Nat) (e : Ent) : Bool := match e.1, e.2.2 with
    | .nop, tg :: _ => decide (pcN t.code tg = e.2.1)
    | .iconst n, inf => decide (Int32.ofInt n = kc inf)
    | .bipush n, inf => decide ((Int8.ofInt n).toInt32 = kc inf)
    | .sipush n, inf => decide ((Int16.ofInt n).toInt32 = kc inf)
    | .ldc idx, [b, k] => decide (b = 98) && decide (t.1.cls = "PairTree$Scanner") && ((decide (k = 1000) && decide (idx = 13)) || (decide (k = 1001) && decide (idx = 76)))
    | .ldc idx, [b, n, j, k] => decide (b ≠ 98) && okW j k (.constant t.1.cls idx (kc [b, n]))
    | .ldc _, _ => false
    | .ldc_w idx, [b, n, j, k] => okW j k (.constant t.1.cls idx (kc [b, n]))
    | .ldc_w _, _ => false
    | .ldc2_w idx, [n, j, k] => okW j k (.constantLong t.1.cls idx (lN n))
    | .ldc2_w _, _ => false
    | .istore_n n, _ => decide ((n : Nat) < t.2.2.1)
    | .istore n, _ => decide (n < t.2.2.1)
    | .astore_n n, _ => decide ((n : Nat) < t.2.2.1)
    | .astore n, _ => decide (n < t.2.2.1)
    | .lstore_n n, _ => decide ((n : Nat) + 1 < t.2.2.1)
    | .lstore n, _ => decide (n + 1 < t.2.2.1)
    | .iinc n k, inf => decide (n < t.2.2.1) && decide (Int32.ofInt k = kc inf)
    | .goto o, inf => okJ t.code i e.2.1 o inf
    | .ifCond _ o, inf => okJ t.code i e.2.1 o inf
    | .if_icmp _ o, inf => okJ t.code i e.2.1 o inf
    | .ifnonnull o, inf => okJ t.code i e.2.1 o inf
    | .tableswitch df lo hi offs, d :: ts => okTs t.code i e.2.1 (df :: offs.toList) (d :: ts) && decide (hi = lo + (offs.size : Int) - 1) && decide (-1000 < lo) && decide (hi < 1000)
    | .lookupswitch df ps, d :: ts => okTs t.code i e.2.1 (df :: ps.toList.map (fun q => q.2)) (d :: ts) && (ps.toList.zip (ps.toList.drop 1)).all (fun (a, next) => a.1 < next.1) && ps.toList.all (fun q => decide (-1000 < q.1) && decide (q.1 < 1000))
    | .getfield idx, [tag, k, kd, j, w] => if tag = 30 then (decide (t.1.cls = "java/lang/String") && (if k = 0 then decide (kd = 2) && okW j w (.fieldLink t.1.cls idx "java/lang/String" "value" "[B") else decide (k = 1) && decide (kd = 0) && okW j w (.fieldLink t.1.cls idx "java/lang/String" "coder" "B"))) else okFl t.1.cls idx tag k kd j w
    | .getfield _, _ => false
    | .putfield idx, [tag, k, kd, j, w] => okPf t.1.cls t.1.name idx tag k kd j w
    | .putfield _, _ => false
    | .getstatic idx, [b, k] => decide (t.1.cls = "java/lang/String") && ((decide (b = 98) && decide (k = 1002) && decide (idx = 1053)) || (decide (b = 1) && decide (k = 1) && decide (idx = 38)))
    | .getstatic _, _ => false
    | .new idx, [tag, n, j1, i1, j2, i2, j3, i3] => okNew t.1.cls idx tag n j1 i1 j2 i2 j3 i3
    | .new _, _ => false
    | .newarray a, [tag, j, k] => okNa a tag j k
    | .newarray _, _ => false
    | .anewarray idx, [tag, j, k] => (decide (tag = 24) && okW j k (.classLink t.1.cls idx "PairTree$Grid")) || (decide (tag = 25) && okW j k (.classLink t.1.cls idx "PairTree$Box"))
    | .anewarray _, _ => false
    | .multianewarray idx dm, [tag, j, k] => decide (dm = 2) && decide (tag = 26) && okW j k (.classLink t.1.cls idx "[[I")
    | .multianewarray _ _, _ => false
    | .arraylength, [tag] => decide (tag = 20) || decide (tag = 21) || decide (tag = 99) || decide (tag = 31)
    | .arraylength, _ => false
    | .iaload, [tag] => decide (tag = 20) || decide (tag = 99)
    | .iaload, _ => false
    | .baload, [tag] => decide (tag = 21) || decide (tag = 23) || decide (tag = 31)
    | .baload, _ => false
    | .aaload, [tag] => decide (tag = 24) || decide (tag = 25) || decide (tag = 26)
    | .aaload, _ => false
    | .bastore, [tag] => decide (tag = 21) || decide (tag = 23)
    | .bastore, _ => false
    | .aastore, [tag, ct] => (decide (tag = 24) && decide (ct = 3)) || (decide (tag = 25) && decide (ct = 1))
    | .aastore, _ => false
    | .invokestatic idx, [b, j, k] => (decide (b = 6) && okW j k (.methodLink t.1.cls idx arraycopyName)) || (decide (b = 4) && okW j k (.methodLink t.1.cls idx Lib.Math.max.name)) || (decide (b = 5) && okW j k (.methodLink t.1.cls idx Lib.Math.min.name))
    | .invokestatic idx, [kd, mid, n, rk, nl, tag, dd, nest, j, k] => decide (kd = 0) && okCal t.2.2.2.2.1 t.1.cls idx 0 mid n rk nl tag dd nest j k t.2.2.2.2.2.1
    | .invokestatic _, [] => true
    | .invokestatic _, _ => false
    | .invokevirtual idx, [kd, mid, n, rk, nl, tag, dd, nest, j, k] => decide (kd = 1) && okCal t.2.2.2.2.1 t.1.cls idx 1 mid n rk nl tag dd nest j k t.2.2.2.2.2.1
    | .invokevirtual _, _ => false
    | .invokespecial idx, [b, j, k] => decide (b = 3) && okW j k (.methodLink t.1.cls idx objectInit)
    | .invokespecial idx, [kd, mid, n, rk, nl, tag, dd, nest, j, k] => decide (kd = 2) && okCal t.2.2.2.2.1 t.1.cls idx 2 mid n rk nl tag dd nest j k t.2.2.2.2.2.1
    | .invokespecial _, _ => false
    | .ireturn, [k] => (match k with
      | 0 => decide (t.2.2.2.1 = some .int)
      | 1 => decide (t.2.2.2.1 = some .boolean)
      | 2 => decide (t.2.2.2.1 = some .byte)
      | _ => decide (t.2.2.2.1 = some .char))
    | .ireturn, _ => false
    | .areturn, _ => decide (∃ ty ∈ t.2.2.2.1, kdTy ty = 2)
    | .return_, _ => decide (t.2.2.2.1 = none)
    | _, _ => true
noncomputable def okE (t : Mth) (i : Nat) (e : Ent) : Bool := okDec t.2.1 e && okNx t.code i e && okSp t i e
noncomputable def okC (t : Mth) : Nat → List Ent → Bool
  | _, [] => true
  | i, e :: c => okE t i e && okC t (i + 1) c
noncomputable def okM (M : Nat) : Bool := match Pg M with
  | some t => okC t 0 t.code && decide (t.2.2.2.2.1 + t.2.2.2.2.2.1 * 8 ≤ 400) && decide (1 ≤ t.2.2.2.2.1)
  | none => true
noncomputable def okMs (M : Nat) : Bool := match Pg M with
  | some t => okMt t
  | none => true

