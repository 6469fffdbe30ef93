def mx_u3 {α : Type} (f : Nat → Nat → Nat → α) (a b c : Nat) (v : α) : Nat → Nat → Nat → α := fun x y z => if x = a ∧ y = b ∧ z = c then v else f x y z
def mx_u2 {α : Type} (f : Nat → Nat → Nat → α) (a b : Nat) (v : α) : Nat → Nat → Nat → α := fun x y z => if x = a ∧ y = b then v else f x y z
def mx_si (s : mSt) (f i j : Nat) (v : Int32) : mSt := (mx_u3 s.1 f i j v, s.2.1, s.2.2.1, s.2.2.2)
def mx_sl (s : mSt) (f i j : Nat) (v : Int64) : mSt := (s.1, mx_u3 s.2.1 f i j v, s.2.2.1, s.2.2.2)
def mx_sp (s : mSt) (f i j : Nat) (v : Nat) : mSt := (s.1, s.2.1, mx_u3 s.2.2.1 f i j (some v), s.2.2.2)
def mx_sn (s : mSt) (f i : Nat) : mSt := (mx_u2 s.1 f i 0, mx_u2 s.2.1 f i 0, mx_u2 s.2.2.1 f i none, s.2.2.2 + 1)
def mx_fN (f : Nat) : Nat := (mx_fam.getD f (0, 0, 0, 9, 0, 0)).1
def mx_fS (f : Nat) : Nat := (mx_fam.getD f (0, 0, 0, 9, 0, 0)).2.1
def mx_fC (f : Nat) : Nat := (mx_fam.getD f (0, 0, 0, 9, 0, 0)).2.2.1
def mx_fK (f : Nat) : Nat := (mx_fam.getD f (0, 0, 0, 9, 0, 0)).2.2.2.1
def mx_fX (f : Nat) : Nat := (mx_fam.getD f (0, 0, 0, 9, 0, 0)).2.2.2.2.1
def mx_fY (f : Nat) : Nat := (mx_fam.getD f (0, 0, 0, 9, 0, 0)).2.2.2.2.2
def mx_num (f i : Nat) : Nat := mx_fN f + mx_fS f * i
def mx_fR (ci j : Nat) : Nat := (mx_fld.getD ci []).getD j 0
def mx_cat : mAV → Nat
  | .inr (.inl _) => 2
  | _ => 1
def mx_wt : List mAV → Nat
  | [] => 0
  | v :: S => mx_cat v + mx_wt S
def mx_p1 (S : List mAV) (k : Int32 → List mAV → Prop) : Prop := match S with
  | .inl x :: S => k x S
  | _ => False
def mx_p2 (S : List mAV) (k : Int32 → Int32 → List mAV → Prop) : Prop := match S with
  | .inl y :: .inl x :: S => k x y S
  | _ => False
def mx_q1 (S : List mAV) (k : Int64 → List mAV → Prop) : Prop := match S with
  | .inr (.inl x) :: S => k x S
  | _ => False
def mx_q2 (S : List mAV) (k : Int64 → Int64 → List mAV → Prop) : Prop := match S with
  | .inr (.inl y) :: .inr (.inl x) :: S => k x y S
  | _ => False
def mx_qi (S : List mAV) (k : Int64 → Int32 → List mAV → Prop) : Prop := match S with
  | .inl y :: .inr (.inl x) :: S => k x y S
  | _ => False
def mx_ix (S : List mAV) (k : Int32 → Nat → Nat → List mAV → Prop) : Prop := match S with
  | .inl j :: .inr (.inr (.inl (f, i))) :: S => k j f i S
  | _ => False
def mx_rf (S : List mAV) (k : Nat → Nat → List mAV → Prop) : Prop := match S with
  | .inr (.inr (.inl (f, i))) :: S => k f i S
  | _ => False
def mx_li (o : Option mAV) (k : Int32 → Prop) : Prop := match o with
  | some (.inl x) => k x
  | _ => False
def mx_ll (o : Option mAV) (k : Int64 → Prop) : Prop := match o with
  | some (.inr (.inl x)) => k x
  | _ => False
def mx_la (o : Option mAV) (k : (Nat × Nat) ⊕ Nat → Prop) : Prop := match o with
  | some (.inr (.inr r)) => k r
  | _ => False
def mx_r1 (S : List mAV) (k : (Nat × Nat) ⊕ Nat → List mAV → Prop) : Prop := match S with
  | .inr (.inr r) :: S => k r S
  | _ => False
def mx_d1 (S : List mAV) (k : mAV → List mAV → Prop) : Prop := match S with
  | .inl x :: S => k (.inl x) S
  | .inr (.inr r) :: S => k (.inr (.inr r)) S
  | _ => False
def mx_d2 (S : List mAV) (k : Int32 → (Nat × Nat) ⊕ Nat → List mAV → Prop) : Prop := match S with
  | .inl j :: .inr (.inr r) :: S => k j r S
  | _ => False
def mx_pf (S : List mAV) (k : Int32 → Nat → Nat → List mAV → Prop) (kr : Nat → Nat → Nat → Nat → List mAV → Prop) : Prop := match S with
  | .inl x :: .inr (.inr (.inl (f, i))) :: S => k x f i S
  | .inr (.inr (.inl (g, y))) :: .inr (.inr (.inl (f, i))) :: S => kr g y f i S
  | _ => False
def mx_ca (r : (Nat × Nat) ⊕ Nat) (k1 : Nat → Nat → Prop) (k2 : Nat → Prop) : Prop := match r with
  | .inl (f, i) => k1 f i
  | .inr a => k2 a
def mx_a1 (aux : List Nat) (k : Nat → Prop) : Prop := match aux with
  | [t] => k t
  | _ => False
def mx_aq (aux : List Nat) (k : Nat → List Nat → Prop) : Prop := match aux with
  | t :: r => k t r
  | [] => False
def mx_a4 (aux : List Nat) (k : Nat → Nat → Nat → Prop) : Prop := match aux with
  | ci :: j :: _ :: z :: _ => k ci j z
  | _ => False
def mx_eq (a b : Nat) (P : Prop) : Prop := match Nat.beq a b with
  | true => P
  | false => False
def mx_kd (f kd : Nat) (P : Prop) : Prop := mx_eq (mx_fK f) kd P
def mx_kn (f : Nat) (P : Prop) : Prop := match Nat.beq (mx_fK f) 0 with
  | true => False
  | false => P
def mx_no (md : Bool) (P : Prop) : Prop := match md with
  | true => False
  | false => P
def mx_or (md : Bool) (ci : Nat) (P : Prop) : Prop := match md, Nat.beq ci 3 with
  | true, false => False
  | _, _ => P
def mx_nz (z : Nat) (x : Int32) (P : Prop) : Prop := match z with
  | 0 => P
  | _ + 1 => narrow .boolean (.int x) = .int x ∧ P
def mx_nw (s : mSt) (k : Nat → Nat → Prop) : Prop := match mx_cod.getD s.2.2.2 (99, 0) with
  | (f, i) => k f i
def mx_ty : ArrayType → Nat
  | .int => 1
  | .char => 2
  | .boolean => 3
  | .long => 4
  | _ => 77
def mx_pop : Nat → List mAV → List mAV → Option (List mAV × List mAV)
  | 0, acc, S => some (acc, S)
  | n + 1, acc, v :: S => mx_pop n (v :: acc) S
  | _ + 1, _, [] => none
def mx_lk (i : Nat) : mLV → Option mAV
  | [] => none
  | (j, v) :: L => match Nat.beq i j with
    | true => some v
    | false => mx_lk i L
def mx_st1 (i : Nat) (v : mAV) (L : mLV) : mLV := (i, v) :: L.filter (fun q => !(Nat.beq q.1 i) && !(Nat.beq (q.1 + 1) i && Nat.beq (mx_cat q.2) 2))
def mx_st2 (i : Nat) (v : mAV) (L : mLV) : mLV := (i, v) :: L.filter (fun q => !(Nat.beq q.1 i) && (!(Nat.beq q.1 (i + 1)) && !(Nat.beq (q.1 + 1) i && Nat.beq (mx_cat q.2) 2)))
def mx_pk (L : mLV) : List Nat → mLV
  | [] => []
  | i :: is => match mx_lk i L with
    | some v => (i, v) :: mx_pk L is
    | none => mx_pk L is
def mx_args : Nat → List mAV → mLV
  | _, [] => []
  | i, v :: r => (i, v) :: mx_args (i + mx_cat v) r
def mx_br (md : Bool) (c A B : Prop) [Decidable c] : Prop := match md with
  | true => (c → A) ∧ (¬ c → B)
  | false => if c then A else B
def mx_sw (x : Int32) : Nat → List Nat → (Nat → Prop) → Prop → Prop
  | _, [], _, d => d
  | j, t :: ts, K, d => (x = nI j → K t) ∧ (¬ x = nI j → mx_sw x (j + 1) ts K d)
def mx_jp (C : List mEn) (t : Nat) : List mEn := C.dropWhile (fun e => !(Nat.beq e.1 t))
def mx_kV (k : mSt → Prop) : mPo := (k, fun _ _ => False, fun _ _ _ => False)
def mx_kI (k : Int32 → mSt → Prop) : mPo := (fun _ => False, k, fun _ _ _ => False)
def mx_kF (g : Nat) (k : Nat → mSt → Prop) : mPo := (fun _ => False, fun _ _ => False, fun f i s => mx_eq f g (k i s))
def mx_nr (ty : FieldType) (x : Int32) : Prop := narrow ty (.int x) = .int x
def mx_hd (hs : List (Nat × Nat × Nat × Nat)) (pc kk : Nat) : Option Nat := match hs with
  | [] => none
  | (a, b, h, c) :: r => match Nat.ble a pc && (Nat.blt pc b && Nat.beq c kk) with
    | true => some h
    | false => mx_hd r pc kk
def mx_al (s : mSt) (g : Nat) (r : Option Nat) (k : mAV → Prop) : Prop := match r with
  | some y => match Nat.blt y (mx_fC g) && Nat.blt (mx_num g y) s.2.2.2 with
    | true => k (.inr (.inr (.inl (g, y))))
    | false => False
  | none => False
def mx_em (S : List mAV) (P : Prop) : Prop := match S with
  | [] => P
  | _ :: _ => False
def mx_th (b : Bool) (S : List mAV) (P : Prop) : Prop := match b, S with
  | true, [] => P
  | _, _ => False
def mx_rt0 (S : List mAV) (r : Option FieldType) (P : Prop) : Prop := match S, r with
  | [], none => P
  | _, _ => False
def mx_rt1 (S : List mAV) (r : Option FieldType) (x : Int32) (P : Prop) : Prop := match S, r with
  | [], some .int => P
  | [], some .boolean => mx_nr .boolean x ∧ P
  | [], some .char => mx_nr .char x ∧ P
  | _, _ => False
def mx_rt2 (S : List mAV) (r : Option FieldType) (P : Prop) : Prop := match S, r with
  | [], some (.object _) => P
  | _, _ => False
def mx_to (md : Bool) (t : mSt) (k : mSt → Prop) : Prop := match md with
  | true => ∀ t', t' = t → k t'
  | false => k t
def mx_bg (a b : Nat) (M : mMt) (P : Prop) : Prop := mx_eq (Nat.ble a M.2.2.1 && Nat.ble b M.2.2.2.1).toNat 1 P
section
variable (md : Bool) (scr : mSc) (cal : Nat → List mAV → mSt → mPo → (Nat → mSt → Prop) → Prop) (M : mMt) (post : mPo) (ex : Nat → mSt → Prop)
def mx_ex (pc : Nat) (kk : Nat) (k : Nat → Nat → mSt → Prop) (s : mSt) : Prop := match mx_hd M.2.2.2.2.1 pc kk with
  | some h => ∀ a, k h a s
  | none => match M.2.2.2.2.2 with
    | true => ex kk s
    | false => False
def mx_gr (s : mSt) (g i : Nat) (r : Option Nat) (k : mAV → Prop) : Prop := match md with
  | true => k (.inr (.inr (.inl (g, i))))
  | false => mx_al s g r k
def mx_get (s : mSt) (f i ci j : Nat) (k : mAV → Prop) : Prop := match mx_fR ci j with
  | 0 => k (.inl (s.1 f i j))
  | g + 1 => match md, Nat.beq ci 3 with
    | true, true => ∃ y, s.2.2.1 f i j = some y ∧ y < mx_fC g ∧ k (.inr (.inr (.inl (g, y))))
    | _, _ => mx_gr md s g i (s.2.2.1 f i j) k
def mx_kc (s : mSt) (mc : Nat) (k : mSt → Prop) (t : mSt) : Prop := match md with
  | true => k t
  | false => mx_eq t.2.2.2 (s.2.2.2 + mc) (k t)
def mx_kr (rk : Nat) (S : List mAV) (k : List mAV → mSt → Prop) : mPo := match rk with
  | 0 => mx_kV (fun s => k S s)
  | 1 => mx_kI (fun x s => k (.inl x :: S) s)
  | g + 2 => mx_kF g (fun i s => k (.inr (.inr (.inl (g, i))) :: S) s)
def mx_xs (th pc : Nat) (k : Nat → Nat → mSt → Prop) : Nat → mSt → Prop := match th with
  | 0 => fun _ _ => False
  | _ + 1 => fun kk s => (kk = 1 → mx_ex M ex pc 1 k s) ∧ (kk = 2 → mx_ex M ex pc 2 k s) ∧ (kk = 3 → mx_ex M ex pc 3 k s)
def mx_rc (rc : Nat) (as : List mAV) (P : Prop) : Prop := match rc with
  | 0 => P
  | c + 1 => mx_rf as (fun f _ _ => mx_kd f 0 (mx_eq (mx_fX f) c P))
def mx_inv (aux : List Nat) (es : List mEn) (L : mLV) (S : List mAV) (s : mSt) (u : Nat × Nat) (k : List mEn → mLV → List mAV → mSt → Nat × Nat → Prop) (pc : Nat) : Prop := match aux with
  | mi :: np :: rk :: th :: mc :: ms :: rc :: _ => match mx_pop np [] S with
    | some (as, S') => mx_eq (Nat.ble (mx_wt S') 8).toNat 1 (mx_rc rc as (match mc with
        | 0 => cal mi as s (mx_kr rk S' (fun S t => mx_kc md s 0 (fun t => k es L S t u) t)) (mx_xs M ex th pc (fun h a s => k (mx_jp M.1 h) L [.inr (.inr (.inr a))] s u))
        | mc + 1 => mx_bg (u.1 + (mc + 1)) (u.2 + ms) M (cal mi as s (mx_kr rk S' (fun S t => mx_kc md s (mc + 1) (fun t => k es L S t (u.1 + (mc + 1), u.2 + ms)) t)) (mx_xs M ex th pc (fun h a s => k (mx_jp M.1 h) L [.inr (.inr (.inr a))] s (u.1 + (mc + 1), u.2 + ms))))))
    | none => False
  | _ => False
def mx_stp (k : List mEn → mLV → List mAV → mSt → Nat × Nat → Prop) (e : mEn) (es : List mEn) (L : mLV) (S : List mAV) (s : mSt) (u : Nat × Nat) : Prop :=
  match e with
  | (pc, _, ins, _, aux, ic, lc) => match ins with
    | .iconst _ => k es L (.inl ic :: S) s u
    | .bipush _ => k es L (.inl ic :: S) s u
    | .sipush _ => k es L (.inl ic :: S) s u
    | .lconst _ => k es L (.inr (.inl lc) :: S) s u
    | .ldc2_w _ => k es L (.inr (.inl lc) :: S) s u
    | .iload i => mx_li (mx_lk i L) (fun x => k es L (.inl x :: S) s u)
    | .iload_n i => mx_li (mx_lk i.val L) (fun x => k es L (.inl x :: S) s u)
    | .lload i => mx_ll (mx_lk i L) (fun x => k es L (.inr (.inl x) :: S) s u)
    | .lload_n i => mx_ll (mx_lk i.val L) (fun x => k es L (.inr (.inl x) :: S) s u)
    | .aload i => mx_la (mx_lk i L) (fun r => k es L (.inr (.inr r) :: S) s u)
    | .aload_n i => mx_la (mx_lk i.val L) (fun r => k es L (.inr (.inr r) :: S) s u)
    | .istore i => mx_p1 S (fun x S => k es (mx_st1 i (.inl x) L) S s u)
    | .istore_n i => mx_p1 S (fun x S => k es (mx_st1 i.val (.inl x) L) S s u)
    | .lstore i => mx_q1 S (fun x S => k es (mx_st2 i (.inr (.inl x)) L) S s u)
    | .lstore_n i => mx_q1 S (fun x S => k es (mx_st2 i.val (.inr (.inl x)) L) S s u)
    | .astore i => mx_r1 S (fun r S => k es (mx_st1 i (.inr (.inr r)) L) S s u)
    | .astore_n i => mx_r1 S (fun r S => k es (mx_st1 i.val (.inr (.inr r)) L) S s u)
    | .iinc i _ => mx_li (mx_lk i L) (fun x => k es (mx_st1 i (.inl (x + ic)) L) S s u)
    | .iadd => mx_p2 S (fun x y S => k es L (.inl (x + y) :: S) s u)
    | .isub => mx_p2 S (fun x y S => k es L (.inl (x - y) :: S) s u)
    | .imul => mx_p2 S (fun x y S => k es L (.inl (x * y) :: S) s u)
    | .iand => mx_p2 S (fun x y S => k es L (.inl (x &&& y) :: S) s u)
    | .ior => mx_p2 S (fun x y S => k es L (.inl (x ||| y) :: S) s u)
    | .ixor => mx_p2 S (fun x y S => k es L (.inl (x ^^^ y) :: S) s u)
    | .ishl => mx_p2 S (fun x y S => k es L (.inl (x <<< (y &&& 31)) :: S) s u)
    | .ishr => mx_p2 S (fun x y S => k es L (.inl (x >>> (y &&& 31)) :: S) s u)
    | .idiv => mx_p2 S (fun x y S => ¬ y = 0 ∧ k es L (.inl (x / y) :: S) s u)
    | .irem => mx_p2 S (fun x y S => ¬ y = 0 ∧ k es L (.inl (x - x / y * y) :: S) s u)
    | .ladd => mx_q2 S (fun x y S => k es L (.inr (.inl (x + y)) :: S) s u)
    | .lsub => mx_q2 S (fun x y S => k es L (.inr (.inl (x - y)) :: S) s u)
    | .land => mx_q2 S (fun x y S => k es L (.inr (.inl (x &&& y)) :: S) s u)
    | .lor => mx_q2 S (fun x y S => k es L (.inr (.inl (x ||| y)) :: S) s u)
    | .lxor => mx_q2 S (fun x y S => k es L (.inr (.inl (x ^^^ y)) :: S) s u)
    | .lushr => mx_qi S (fun x y S => k es L (.inr (.inl ((x.toUInt64 >>> (y.toInt64.toUInt64 &&& Int64.toUInt64 63)).toInt64)) :: S) s u)
    | .lshl => mx_qi S (fun x y S => k es L (.inr (.inl (x <<< (y.toInt64 &&& 63))) :: S) s u)
    | .i2l => mx_p1 S (fun x S => k es L (.inr (.inl x.toInt64) :: S) s u)
    | .l2i => mx_q1 S (fun x S => k es L (.inl x.toInt32 :: S) s u)
    | .i2c => mx_p1 S (fun x S => k es L (.inl (x.toUInt32 % 65536).toInt32 :: S) s u)
    | .lcmp => mx_q2 S (fun x y S => k es L (.inl (lg_cmp x y) :: S) s u)
    | .dup => mx_d1 S (fun v S => k es L (v :: v :: S) s u)
    | .dup2 => mx_d2 S (fun j r S => k es L (.inl j :: .inr (.inr r) :: .inl j :: .inr (.inr r) :: S) s u)
    | .dup_x1 => mx_d2 S (fun x r S => k es L (.inl x :: .inr (.inr r) :: .inl x :: S) s u)
    | .pop => mx_p1 S (fun _ S => k es L S s u)
    | .goto _ => mx_a1 aux (fun t => k (mx_jp M.1 t) L S s u)
    | .ifCond c _ => mx_a1 aux (fun t => mx_p1 S (fun x S => match c with
        | .eq => mx_br md (x = 0) (k (mx_jp M.1 t) L S s u) (k es L S s u)
        | .ne => mx_br md (x = 0) (k es L S s u) (k (mx_jp M.1 t) L S s u)
        | .lt => mx_br md (x < 0) (k (mx_jp M.1 t) L S s u) (k es L S s u)
        | .ge => mx_br md (0 ≤ x) (k (mx_jp M.1 t) L S s u) (k es L S s u)
        | .gt => mx_br md (0 < x) (k (mx_jp M.1 t) L S s u) (k es L S s u)
        | .le => mx_br md (x ≤ 0) (k (mx_jp M.1 t) L S s u) (k es L S s u)))
    | .if_icmp c _ => mx_a1 aux (fun t => mx_p2 S (fun x y S => match c with
        | .eq => mx_br md (x = y) (k (mx_jp M.1 t) L S s u) (k es L S s u)
        | .ne => mx_br md (x = y) (k es L S s u) (k (mx_jp M.1 t) L S s u)
        | .lt => mx_br md (x < y) (k (mx_jp M.1 t) L S s u) (k es L S s u)
        | .ge => mx_br md (y ≤ x) (k (mx_jp M.1 t) L S s u) (k es L S s u)
        | .gt => mx_br md (y < x) (k (mx_jp M.1 t) L S s u) (k es L S s u)
        | .le => mx_br md (x ≤ y) (k (mx_jp M.1 t) L S s u) (k es L S s u)))
    | .tableswitch _ _ _ _ => mx_aq aux (fun d ts => mx_p1 S (fun x S => mx_sw x 0 ts (fun t => k (mx_jp M.1 t) L S s u) (k (mx_jp M.1 d) L S s u)))
    | .arraylength => mx_r1 S (fun r S => mx_ca r (fun f _ => mx_kn f (k es L (.inl (nI (mx_fX f)) :: S) s u)) (fun a => a = scr.1 ∧ k es L (.inl (nI scr.2.1) :: S) s u))
    | .iaload => mx_d2 S (fun j r S => mx_ca r (fun f i => mx_kd f 1 (vp_in j (mx_fX f) ∧ k es L (.inl (s.1 f i j.toNatClampNeg) :: S) s u)) (fun a => a = scr.1 ∧ vp_in j scr.2.1 ∧ k es L (.inl (scr.2.2 j.toNatClampNeg) :: S) s u))
    | .caload => mx_ix S (fun j f i S => mx_kd f 2 (vp_in j (mx_fX f) ∧ k es L (.inl (s.1 f i j.toNatClampNeg) :: S) s u))
    | .baload => mx_ix S (fun j f i S => mx_kd f 3 (vp_in j (mx_fX f) ∧ k es L (.inl (s.1 f i j.toNatClampNeg) :: S) s u))
    | .laload => mx_ix S (fun j f i S => mx_kd f 4 (vp_in j (mx_fX f) ∧ k es L (.inr (.inl (s.2.1 f i j.toNatClampNeg)) :: S) s u))
    | .aaload => mx_ix S (fun j f i S => mx_kd f 5 (vp_in j (mx_fX f) ∧ mx_gr md s (mx_fY f) j.toNatClampNeg (s.2.2.1 f i j.toNatClampNeg) (fun v => k es L (v :: S) s u)))
    | .iastore => mx_p1 S (fun x S => mx_ix S (fun j f i S => mx_kd f 1 (vp_in j (mx_fX f) ∧ mx_to md (mx_si s f i j.toNatClampNeg x) (fun t => k es L S t u))))
    | .castore => mx_p1 S (fun x S => mx_ix S (fun j f i S => mx_kd f 2 (vp_in j (mx_fX f) ∧ mx_to md (mx_si s f i j.toNatClampNeg (vp_nar .char x)) (fun t => k es L S t u))))
    | .bastore => mx_p1 S (fun x S => mx_ix S (fun j f i S => mx_kd f 3 (vp_in j (mx_fX f) ∧ mx_to md (mx_si s f i j.toNatClampNeg (vp_nar .boolean x)) (fun t => k es L S t u))))
    | .lastore => mx_q1 S (fun x S => mx_ix S (fun j f i S => mx_kd f 4 (vp_in j (mx_fX f) ∧ mx_to md (mx_sl s f i j.toNatClampNeg x) (fun t => k es L S t u))))
    | .aastore => mx_rf S (fun g y S => mx_ix S (fun j f i S => mx_kd f 5 (mx_no md (mx_eq (mx_fY f) g (vp_in j (mx_fX f) ∧ k es L S (mx_sp s f i j.toNatClampNeg y) u)))))
    | .getfield _ => mx_aq aux (fun ci r => mx_aq r (fun j _ => mx_rf S (fun f i S => mx_kd f 0 (mx_eq (mx_fX f) ci (mx_get md s f i ci j (fun v => k es L (v :: S) s u))))))
    | .putfield _ => mx_a4 aux (fun ci j z => mx_pf S (fun x f i S => mx_kd f 0 (mx_eq (mx_fX f) ci (mx_eq (mx_fR ci j) 0 (mx_nz z x (mx_to md (mx_si s f i j x) (fun t => k es L S t u))))))
        (fun g y f i S => mx_kd f 0 (mx_eq (mx_fX f) ci (mx_eq (mx_fR ci j) (g + 1) (mx_or md ci (mx_to md (mx_sp s f i j y) (fun t => k es L S t u)))))))
    | .new _ => mx_aq aux (fun z r => mx_aq r (fun ci _ => match z with
      | 0 => mx_no md (mx_nw s (fun f i => mx_kd f 0 (mx_eq (mx_fX f) ci (mx_bg (u.1 + 1) (u.2 + mx_nF ci) M (k es L (.inr (.inr (.inl (f, i))) :: S) (mx_sn s f i) (u.1 + 1, u.2 + mx_nF ci))))))
      | _ + 1 => mx_th M.2.2.2.2.2 S (mx_bg (u.1 + 1) (u.2 + 6) M (ex ci s))))
    | .newarray ty => mx_no md (mx_nw s (fun f i => mx_p1 S (fun n S => mx_eq (mx_fK f) (mx_ty ty) (n = nI (mx_fX f) ∧ mx_bg (u.1 + 1) (u.2 + mx_fX f) M (k es L (.inr (.inr (.inl (f, i))) :: S) (mx_sn s f i) (u.1 + 1, u.2 + mx_fX f))))))
    | .anewarray _ => mx_aq aux (fun g _ => mx_no md (mx_nw s (fun f i => mx_p1 S (fun n S => mx_eq (mx_fK f) 5 (mx_eq (mx_fY f) g (n = nI (mx_fX f) ∧ mx_bg (u.1 + 1) (u.2 + mx_fX f) M (k es L (.inr (.inr (.inl (f, i))) :: S) (mx_sn s f i) (u.1 + 1, u.2 + mx_fX f))))))))
    | .invokevirtual _ => mx_inv md cal M ex aux es L S s u k pc
    | .invokestatic _ => mx_inv md cal M ex aux es L S s u k pc
    | .invokespecial _ => match aux with
      | [] => mx_no md (mx_r1 S (fun _ S => mx_em S (k es L [] s u)))
      | a :: r => mx_inv md cal M ex (a :: r) es L S s u k pc
    | .return_ => mx_rt0 S M.2.1 (post.1 s)
    | .ireturn => mx_p1 S (fun x S => mx_rt1 S M.2.1 x (post.2.1 x s))
    | .areturn => mx_rf S (fun f i S => mx_rt2 S M.2.1 (post.2.2 f i s))
    | _ => False
def mx_blk (q : Nat → mLV → mSt → Nat × Nat → Prop) : Nat → Bool → List mEn → mLV → List mAV → mSt → Nat × Nat → Prop
  | 0 => fun _ _ _ _ _ _ => False
  | n + 1 => fun b es L S s u => match es with
    | [] => False
    | e :: es' => match b, e.2.1 with
      | false, some lv => match S with
        | [] => q e.1 (mx_pk L lv) s u
        | _ :: _ => False
      | _, _ => mx_stp md scr cal M post ex (mx_blk q n false) e es' L S s u
def mx_xq : Nat → Nat → mLV → mSt → Nat × Nat → Prop
  | 0 => fun _ _ _ _ => False
  | n + 1 => fun pc L s u => mx_blk md scr cal M post ex (mx_xq n) 700 true (mx_jp M.1 pc) L [] s u
end
def mx_XW (md : Bool) (scr : mSc) : Nat → Nat → List mAV → mSt → mPo → (Nat → mSt → Prop) → Prop
  | 0 => fun _ _ _ _ _ => False
  | d + 1 => fun mi as s post ex => mx_eq (Nat.ble (mx_wt as) (mx_mLs.getD mi 0)).toNat 1 (∃ n, mx_blk md scr (mx_XW md scr d) (mx_mt mi) post ex (mx_xq md scr (mx_XW md scr d) (mx_mt mi) post ex n) 700 true (mx_mt mi).1 (mx_args 0 as) [] s (0, 0))
