/-! THE ABSTRACT MACHINE, second half: one instruction, and the run. (Goes behind the code tables: mtL.)
G: the script (length, ints), which the law has as the value .retAddr 0. k: this method goes on; call: a callee's run; nat: is there room for a native's frame. -/
abbrev Kn_ : Type := Nat → List (Option Value) → List Value → Mm_ → Option Out_
def am_inv (k : Kn_) (call : Nat → List Value → Mm_ → Option Out_) (e : En_) (L : List (Option Value)) (st : List Value) (M : Mm_) : Option Out_ :=
  cond (Nat.ble (st.drop e.2.2.2.2.1).length 8 && Nat.ble e.2.2.2.2.1 st.length) ((call e.2.2.2.1 (st.take e.2.2.2.2.1).reverse M).bind fun o => k (e.1 + 3) L (o.1.toList ++ st.drop e.2.2.2.2.1) o.2) none
def am_recv (M : Mm_) (e : En_) (st : List Value) : Bool := match (st.take e.2.2.2.2.1).reverse, e.2.2.2.2.2.2 with
  | .ref b :: _, q :: _ => am_okO M b q.2
  | _, _ => false
def am_sw (k : Nat → Option Out_) (x : Int32) (d : Nat) : List (Int × Nat) → Option Out_
  | [] => k d
  | q :: r => if x = zI q.1 then k q.2 else am_sw k x d r
def am_ld (k : Kn_) (i n : Nat) (e : En_) (L : List (Option Value)) (st : List Value) (M : Mm_) : Option Out_ := match L[i]? with
  | some (some (.int x)) => k (e.1 + n) L (.int x :: st) M
  | _ => none
def am_ldA (k : Kn_) (i n : Nat) (e : En_) (L : List (Option Value)) (st : List Value) (M : Mm_) : Option Out_ := match L[i]? with
  | some (some (.ref x)) => k (e.1 + n) L (.ref x :: st) M
  | some (some (.retAddr x)) => k (e.1 + n) L (.retAddr x :: st) M
  | _ => none
def am_stI (k : Kn_) (i n : Nat) (e : En_) (L : List (Option Value)) (st : List Value) (M : Mm_) : Option Out_ :=
  sI st fun x r => cond (Nat.blt i L.length) (k (e.1 + n) (L.set i (some (.int x))) r M) none
def am_stA (k : Kn_) (i n : Nat) (e : En_) (L : List (Option Value)) (st : List Value) (M : Mm_) : Option Out_ :=
  sR st fun x r => cond (Nat.blt i L.length) (k (e.1 + n) (L.set i (some (.ref x))) r M) none
def am_bin (k : Kn_) (f : Int32 → Int32 → Int32) (e : En_) (L : List (Option Value)) (st : List Value) (M : Mm_) : Option Out_ :=
  sII st fun x y r => k (e.1 + 1) L (.int (f x y) :: r) M
def am_if0 (k : Kn_) (c : ClassFile.Cond) (e : En_) (L : List (Option Value)) (st : List Value) (M : Mm_) : Option Out_ := sI st fun x r => match c with
    | .eq => if x = 0 then k e.2.2.2.1 L r M else k (e.1 + 3) L r M
    | .ne => if x = 0 then k (e.1 + 3) L r M else k e.2.2.2.1 L r M
    | .lt => if x < 0 then k e.2.2.2.1 L r M else k (e.1 + 3) L r M
    | .ge => if x < 0 then k (e.1 + 3) L r M else k e.2.2.2.1 L r M
    | .gt => if 0 < x then k e.2.2.2.1 L r M else k (e.1 + 3) L r M
    | .le => if 0 < x then k (e.1 + 3) L r M else k e.2.2.2.1 L r M
def am_if2 (k : Kn_) (c : ClassFile.Cond) (e : En_) (L : List (Option Value)) (st : List Value) (M : Mm_) : Option Out_ := sII st fun x y r => match c with
    | .eq => if x = y then k e.2.2.2.1 L r M else k (e.1 + 3) L r M
    | .ne => if x = y then k (e.1 + 3) L r M else k e.2.2.2.1 L r M
    | .lt => if x < y then k e.2.2.2.1 L r M else k (e.1 + 3) L r M
    | .ge => if x < y then k (e.1 + 3) L r M else k e.2.2.2.1 L r M
    | .gt => if y < x then k e.2.2.2.1 L r M else k (e.1 + 3) L r M
    | .le => if y < x then k (e.1 + 3) L r M else k e.2.2.2.1 L r M
def am_iinc (k : Kn_) (i : Nat) (c : Int) (e : En_) (L : List (Option Value)) (st : List Value) (M : Mm_) : Option Out_ := match L[i]? with
  | some (some (.int x)) => k (e.1 + 3) (L.set i (some (.int (x + zI c)))) st M
  | _ => none
def am_ldc (k : Kn_) (e : En_) (L : List (Option Value)) (st : List Value) (M : Mm_) : Option Out_ := match e.2.2.2.2.2.2 with
  | q :: _ => k (e.1 + 2) L (.int (zI q.1) :: st) M
  | [] => none
def am_dup (k : Kn_) (e : En_) (L : List (Option Value)) (st : List Value) (M : Mm_) : Option Out_ := match st with
  | .int x :: q => k (e.1 + 1) L (.int x :: .int x :: q) M
  | .ref x :: q => k (e.1 + 1) L (.ref x :: .ref x :: q) M
  | _ => none
def am_put (k : Kn_) (e : En_) (L : List (Option Value)) (st : List Value) (M : Mm_) : Option Out_ := match st with
  | .int x :: .ref a :: q => cond (am_okP M a e.2.2.2.1 e.2.2.2.2.1 0) (k (e.1 + 3) L q (am_setI M a e.2.2.2.2.1 x)) none
  | .ref b :: .ref a :: q => cond (am_okP M a e.2.2.2.1 e.2.2.2.2.1 1) (k (e.1 + 3) L q (am_setR M a e.2.2.2.2.1 b)) none
  | _ => none
def am_iald (G : Nat × (Nat → Int32)) (k : Kn_) (e : En_) (L : List (Option Value)) (st : List Value) (M : Mm_) : Option Out_ := match st with
  | .int i :: .ref a :: q => cond (am_okA M a 0 i) (k (e.1 + 1) L (.int (M.2.1 a i.toNatClampNeg) :: q) M) none
  | .int i :: .retAddr _ :: q => cond (am_in i G.1) (k (e.1 + 1) L (.int (G.2 i.toNatClampNeg) :: q) M) none
  | _ => none
def am_alen (G : Nat × (Nat → Int32)) (k : Kn_) (e : En_) (L : List (Option Value)) (st : List Value) (M : Mm_) : Option Out_ := match st with
  | .ref a :: q => cond (am_len M a).isSome (k (e.1 + 1) L (.int (zI ((am_len M a).getD 0)) :: q) M) none
  | .retAddr _ :: q => k (e.1 + 1) L (.int (zI G.1) :: q) M
  | _ => none
def am_cpy (k : Kn_) (nat : Bool) (e : En_) (L : List (Option Value)) (st : List Value) (M : Mm_) : Option Out_ := match st with
  | .int n :: .int dp :: .ref b :: .int sp :: .ref a :: q => cond (nat && Nat.ble q.length 8 && am_okC M a b sp dp n) (k (e.1 + 3) L q (am_copy M a b sp.toNatClampNeg dp.toNatClampNeg n.toNatClampNeg)) none
  | _ => none
def am_iret (r : Nat) (st : List Value) (M : Mm_) : Option Out_ := match st with
  | [.int x] => cond (Nat.beq r 1 || (Nat.beq r 2 && am_bit x)) (some (some (.int x), M)) none
  | _ => none
def am_vret (r : Nat) (st : List Value) (M : Mm_) : Option Out_ := match st with
  | [] => cond (Nat.beq r 0) (some (none, M)) none
  | _ => none
def am_step (G : Nat × (Nat → Int32)) (r : Nat) (k : Kn_) (call : Nat → List Value → Mm_ → Option Out_) (nat : Bool) (e : En_) (L : List (Option Value)) (st : List Value) (M : Mm_) : Option Out_ :=
  match e.2.1 with
  | .iconst n => k (e.1 + 1) L (.int (zI n) :: st) M
  | .bipush n => k (e.1 + 2) L (.int (zI n) :: st) M
  | .sipush n => k (e.1 + 3) L (.int (zI n) :: st) M
  | .ldc _ => am_ldc k e L st M
  | .iload i => am_ld k i 2 e L st M
  | .iload_n i => am_ld k i.val 1 e L st M
  | .aload i => am_ldA k i 2 e L st M
  | .aload_n i => am_ldA k i.val 1 e L st M
  | .istore i => am_stI k i 2 e L st M
  | .istore_n i => am_stI k i.val 1 e L st M
  | .astore i => am_stA k i 2 e L st M
  | .astore_n i => am_stA k i.val 1 e L st M
  | .iinc i c => am_iinc k i c e L st M
  | .iadd => am_bin k (fun x y => x + y) e L st M
  | .isub => am_bin k (fun x y => x - y) e L st M
  | .imul => am_bin k (fun x y => x * y) e L st M
  | .iand => am_bin k (fun x y => x &&& y) e L st M
  | .ior => am_bin k (fun x y => x ||| y) e L st M
  | .ishl => am_bin k (fun x y => x <<< (y &&& 31)) e L st M
  | .ishr => am_bin k (fun x y => x >>> (y &&& 31)) e L st M
  | .iushr => am_bin k am_ushr e L st M
  | .i2s => sI st fun x q => k (e.1 + 1) L (.int x.toInt16.toInt32 :: q) M
  | .dup => am_dup k e L st M
  | .dup2 => sIR st fun y x q => k (e.1 + 1) L (.int y :: .ref x :: .int y :: .ref x :: q) M
  | .pop => sI st fun _ q => k (e.1 + 1) L q M
  | .goto _ => k e.2.2.2.1 L st M
  | .ifCond c _ => am_if0 k c e L st M
  | .if_icmp c _ => am_if2 k c e L st M
  | .tableswitch _ _ _ _ => sI st fun x q => am_sw (fun t => k t L q M) x e.2.2.2.1 e.2.2.2.2.2.2
  | .getfield _ => sR st fun a q => cond (am_okF M a e.2.2.2.1 e.2.2.2.2.1) (am_get M a e.2.2.2.1 e.2.2.2.2.1 fun v => k (e.1 + 3) L (v :: q) M) none
  | .putfield _ => am_put k e L st M
  | .iaload => am_iald G k e L st M
  | .baload => sIR st fun i a q => cond (am_okA M a 1 i) (k (e.1 + 1) L (.int (M.2.1 a i.toNatClampNeg) :: q) M) none
  | .aaload => sIR st fun i a q => cond (am_okQ M a i) (cond (M.2.2 a i.toNatClampNeg).isSome (k (e.1 + 1) L (.ref ((M.2.2 a i.toNatClampNeg).getD 0) :: q) M) none) none
  | .iastore => sIIR st fun x i a q => cond (am_okA M a 0 i) (k (e.1 + 1) L q (am_setI M a i.toNatClampNeg x)) none
  | .bastore => sIIR st fun x i a q => cond (am_okA M a 1 i) (k (e.1 + 1) L q (am_setI M a i.toNatClampNeg (x &&& 1))) none
  | .aastore => sRIR st fun v i a q => cond (am_okS M a v i) (k (e.1 + 1) L q (am_setR M a i.toNatClampNeg v)) none
  | .arraylength => am_alen G k e L st M
  | .new _ => k (e.1 + 3) L (.ref M.1.length :: st) (am_new M (.inl e.2.2.2.1))
  | .newarray _ => sI st fun x q => cond (am_in x 4000) (k (e.1 + 2) L (.ref M.1.length :: q) (am_new M (.inr (e.2.2.2.1, x.toNatClampNeg)))) none
  | .anewarray _ => sI st fun x q => cond (am_in x 4000) (k (e.1 + 3) L (.ref M.1.length :: q) (am_new M (.inr (e.2.2.2.1 + 2, x.toNatClampNeg)))) none
  | .invokevirtual _ => cond (am_recv M e st) (am_inv k call e L st M) none
  | .invokespecial _ => cond (Nat.beq e.2.2.2.1 900) (sR st fun _ q => cond (nat && Nat.ble q.length 8) (k (e.1 + 3) L q M) none) (cond (am_recv M e st) (am_inv k call e L st M) none)
  | .invokestatic _ => cond (Nat.beq e.2.2.2.1 901) (am_cpy k nat e L st M) (am_inv k call e L st M)
  | .ireturn => am_iret r st M
  | .return_ => am_vret r st M
  | _ => none
def am_loc (n : Nat) (as : List Value) : List (Option Value) := as.map some ++ List.replicate (n - as.length) none
def am_run (G : Nat × (Nat → Int32)) : Nat → Nat → Mt_ → Nat → List (Option Value) → List Value → Mm_ → Option Out_
  | 0, _, _, _, _, _, _ => none
  | n + 1, d, mt, pc, L, st, M => (am_fd pc mt.1).bind fun e => am_step G mt.2 (fun pc' L' st' M' => am_run G n d mt pc' L' st' M')
      (match d with
        | 0 => fun _ _ _ => none
        | d' + 1 => fun y as M' => (mtL[y]?).bind fun q => am_run G n d' q.1 0 (am_loc q.2.2 as) [] M')
      (match d with
        | 0 => false
        | _ + 1 => true) e L st M
def am_cl (G : Nat × (Nat → Int32)) (n d y : Nat) (as : List Value) (M : Mm_) : Option Out_ := (mtL[y]?).bind fun q => am_run G n d q.1 0 (am_loc q.2.2 as) [] M
