/-! the least predicate that the steps keep: total correctness of a run; calls by their depth -/
theorem am_I_mono {v : Value} {f g : Int32 → Prop} (h : ∀ x, f x → g x) : am_I v f → am_I v g := by
  cases v <;> first | exact h _ | exact fun q => q
theorem am_L_mono {v : Value} {f g : Int64 → Prop} (h : ∀ x, f x → g x) : am_L v f → am_L v g := by
  cases v <;> first | exact h _ | exact fun q => q
theorem am_D_mono {v : Value} {f g : UInt64 → Prop} (h : ∀ x, f x → g x) : am_D v f → am_D v g := by
  cases v <;> first | exact h _ | exact fun q => q
theorem am_F_mono {v : Value} {f g : UInt32 → Prop} (h : ∀ x, f x → g x) : am_F v f → am_F v g := by
  cases v <;> first | exact h _ | exact fun q => q
theorem am_R_mono {v : Value} {f g : Value → Prop} (h : ∀ x, f x → g x) : am_R v f → am_R v g := by
  cases v <;> first | exact h _ | exact fun q => q
theorem am_ia_mono {h : am_H} {a t : Nat} {f g : Nat → (Nat → Int32) → Prop} (hm : ∀ k x, f k x → g k x) : am_ia h a t f → am_ia h a t g := by
  unfold am_ia; split
  · exact fun q => ⟨q.1, hm _ _ q.2⟩
  · exact fun q => q
theorem am_la_mono {h : am_H} {a t : Nat} {f g : Nat → (Nat → Int64) → Prop} (hm : ∀ k x, f k x → g k x) : am_la h a t f → am_la h a t g := by
  unfold am_la; split
  · exact fun q => ⟨q.1, hm _ _ q.2⟩
  · exact fun q => q
theorem am_da_mono {h : am_H} {a t : Nat} {f g : Nat → (Nat → UInt64) → Prop} (hm : ∀ k x, f k x → g k x) : am_da h a t f → am_da h a t g := by
  unfold am_da; split
  · exact fun q => ⟨q.1, hm _ _ q.2⟩
  · exact fun q => q
theorem am_qa_mono {h : am_H} {a t : Nat} {f g : Nat → (Nat → Option Nat) → Prop} (hm : ∀ k x, f k x → g k x) : am_qa h a t f → am_qa h a t g := by
  unfold am_qa; split
  · exact fun q => ⟨q.1, hm _ _ q.2⟩
  · exact fun q => q
theorem am_an_mono {h : am_H} {a : Nat} {f g : Nat → Prop} (hm : ∀ k, f k → g k) : am_an h a f → am_an h a g := by
  unfold am_an; split
  · exact hm _
  · exact fun q => q
theorem am_oa_mono {h : am_H} {a ci : Nat} {f g : List Value → Prop} (hm : ∀ k, f k → g k) : am_oa h a ci f → am_oa h a ci g := by
  unfold am_oa; split
  · exact fun q => ⟨q.1, hm _ q.2⟩
  · exact fun q => q
theorem am_sw_mono {x : Int32} {f g : Nat → Prop} (hm : ∀ k, f k → g k) {d : Nat} : ∀ {ts : List Nat} {k : Int32}, am_sw x f d k ts → am_sw x g d k ts
  | [], _, q => hm _ q
  | _ :: _, _, q => ⟨fun e => hm _ (q.1 e), fun e => am_sw_mono hm (q.2 e)⟩
theorem am_sl_mono {x : Int32} {f g : Nat → Prop} (hm : ∀ k, f k → g k) {d : Nat} : ∀ {ps : List (Int × Int)} {ts : List Nat}, am_sl x f d ps ts → am_sl x g d ps ts
  | [], _, q => hm _ q
  | _ :: _, [], q => hm _ q
  | _ :: _, _ :: _, q => ⟨fun e => hm _ (q.1 e), fun e => am_sl_mono hm (q.2 e)⟩
theorem am_pop_mono {f g : List Value → List Value → Prop} (hm : ∀ a r, f a r → g a r) : ∀ {k : Nat} {as st : List Value}, am_pop k as st f → am_pop k as st g
  | 0, _, _, q => hm _ _ q
  | _ + 1, _, [], q => q
  | k + 1, _, _ :: _, q => am_pop_mono (k := k) hm q
theorem am_b0_mono {c : am_C} {mc ms : Nat} {B : am_C} {f g : am_C → Prop} (hm : ∀ c, f c → g c) : am_b0 c mc ms B f → am_b0 c mc ms B g :=
  fun q => ⟨fun e => hm _ (q.1 e), fun e => ⟨(q.2 e).1, (q.2 e).2.1, hm _ (q.2 e).2.2⟩⟩
def am_mono (CT : am_CT) : Prop := ∀ m as h n (K K' : am_K), (∀ v h n, K v h n → K' v h n) → CT m as h n K → CT m as h n K'
set_option maxHeartbeats 4000000 in
theorem am_sem_mono {CT : am_CT} (hC : am_mono CT) {dfs : Nat → List Value} {BT BT' : Nat → am_N} {B : am_C} {rt : Nat} {K K' : am_K} {i : am_AI} {nx nx' : am_N} (hB : ∀ b ls st h n c, BT b ls st h n c → BT' b ls st h n c) (hn : ∀ ls st h n c, nx ls st h n c → nx' ls st h n c) (hK : ∀ v h n, K v h n → K' v h n) {ls st : List Value} {h : am_H} {n : Nat} {c : am_C} : am_sem CT dfs BT B rt K i nx ls st h n c → am_sem CT dfs BT' B rt K' i nx' ls st h n c := by
  obtain ⟨ins, v, a⟩ := i
  cases ins <;> dsimp only [am_sem] <;> first
    | exact fun q => q
    | exact hn _ _ _ _ _
    | exact hB _ _ _ _ _ _
    | exact am_I_mono fun x => hn _ _ _ _ _
    | exact am_L_mono fun x => hn _ _ _ _ _
    | exact am_D_mono fun x => hn _ _ _ _ _
    | exact am_F_mono fun x => hn _ _ _ _ _
    | exact am_R_mono fun x => hn _ _ _ _ _
    | exact fun q => ⟨q.1, q.2.1, hn _ _ _ _ _ q.2.2⟩
    | (split <;> first
        | exact fun q => q
        | exact hn _ _ _ _ _
        | exact hB _ _ _ _ _ _
        | exact fun q => ⟨q.1, hK _ _ _ q.2⟩
        | exact fun q => ⟨q.1, hB _ _ _ _ _ _ q.2⟩
        | exact fun q => ⟨q.1, hn _ _ _ _ _ q.2⟩
        | exact fun q => ⟨q.1, q.2.1, hn _ _ _ _ _ q.2.2⟩
        | exact fun q z hz => hn _ _ _ _ _ (q z hz)
        | exact fun q => ⟨fun e => hB _ _ _ _ _ _ (q.1 e), fun e => hB _ _ _ _ _ _ (q.2 e)⟩
        | exact fun q => ⟨q.1, q.2.1, q.2.2.1, q.2.2.2.1, hn _ _ _ _ _ q.2.2.2.2⟩
        | exact fun q => ⟨q.1, q.2.1, q.2.2.1, q.2.2.2.1, q.2.2.2.2.elim fun f z => ⟨f, z.1, hn _ _ _ _ _ z.2⟩⟩
        | exact fun q => ⟨q.1, q.2.1, q.2.2.1, q.2.2.2.1, q.2.2.2.2.1, q.2.2.2.2.2.1, hn _ _ _ _ _ q.2.2.2.2.2.2⟩
        | exact am_sw_mono fun _ => hB _ _ _ _ _ _
        | exact am_sl_mono fun _ => hB _ _ _ _ _ _
        | exact am_an_mono fun _ => hn _ _ _ _ _
        | exact am_ia_mono fun _ _ q => ⟨q.1, hn _ _ _ _ _ q.2⟩
        | exact am_la_mono fun _ _ q => ⟨q.1, hn _ _ _ _ _ q.2⟩
        | exact am_da_mono fun _ _ q => ⟨q.1, hn _ _ _ _ _ q.2⟩
        | exact am_qa_mono fun _ _ q => ⟨q.1, hn _ _ _ _ _ q.2⟩
        | exact am_ia_mono fun _ _ q => ⟨q.1, q.2.1, hn _ _ _ _ _ q.2.2⟩
        | exact am_ia_mono fun _ _ q => ⟨q.1, q.2.1, q.2.2.1, hn _ _ _ _ _ q.2.2.2⟩
        | exact am_la_mono fun _ _ q => ⟨q.1, q.2.1, hn _ _ _ _ _ q.2.2⟩
        | exact am_da_mono fun _ _ q => ⟨q.1, q.2.1, hn _ _ _ _ _ q.2.2⟩
        | exact am_qa_mono fun _ _ q => ⟨q.1, q.2.1, am_oa_mono (fun _ => hn _ _ _ _ _) q.2.2⟩
        | exact am_ia_mono fun _ _ q => ⟨q.1, hn _ _ _ _ _ q.2⟩
        | (refine am_oa_mono fun fs => ?_; split <;> first | exact fun q => q | exact fun q => ⟨q.1, hn _ _ _ _ _ q.2⟩)
        | (refine am_oa_mono fun fs q => ⟨q.1, q.2.1, ?_⟩; have q := q.2.2; revert q; split <;> first | exact fun q => q | exact fun q => ⟨q.1, hn _ _ _ _ _ q.2⟩)
        | (split <;> first | exact fun q => q | exact fun q => ⟨q.1, hn _ _ _ _ _ q.2⟩ | exact fun q => ⟨q.1, q.2.1, hn _ _ _ _ _ q.2.2⟩ | exact fun q => ⟨q.1, am_ia_mono (fun _ _ q => ⟨q.1, q.2.1, q.2.2.1, q.2.2.2.1, hn _ _ _ _ _ q.2.2.2.2⟩) q.2⟩ | exact fun q => ⟨q.1, q.2.1, q.2.2.1, q.2.2.2.1, am_ia_mono (fun _ _ => am_ia_mono fun _ _ q => ⟨q.1, q.2.1, q.2.2.1, q.2.2.2.1, hn _ _ _ _ _ q.2.2.2.2⟩) q.2.2.2.2⟩)
        | (refine am_pop_mono fun as r => ?_; split <;> first | exact fun q => q | exact am_oa_mono fun _ q => ⟨q.1, am_b0_mono (fun c' => hC _ _ _ _ _ _ fun _ _ _ => hn _ _ _ _ _) q.2⟩)
        | (split <;> first | (split <;> first | exact fun q => q | exact fun q => ⟨q.1, hn _ _ _ _ _ q.2⟩) | exact am_pop_mono fun as r q => ⟨q.1, am_b0_mono (fun c' => hC _ _ _ _ _ _ fun _ _ _ => hn _ _ _ _ _) q.2⟩))
theorem am_ex_mono {CT : am_CT} (hC : am_mono CT) {dfs : Nat → List Value} {BT BT' : Nat → am_N} {B : am_C} {rt : Nat} {K K' : am_K} (hB : ∀ b ls st h n c, BT b ls st h n c → BT' b ls st h n c) (hK : ∀ v h n, K v h n → K' v h n) : ∀ (is : List am_AI) {ls st : List Value} {h : am_H} {n : Nat} {c : am_C}, am_ex CT dfs BT B rt K is ls st h n c → am_ex CT dfs BT' B rt K' is ls st h n c
  | [], _, _, _, _, _, q => q
  | i :: is, _, _, _, _, _, q => am_sem_mono hC hB (fun _ _ _ _ _ => am_ex_mono hC hB hK is) hK q
abbrev am_St : Type := Nat × List Value × List Value × am_H × Nat × am_C
/-- a method as this part sees it: its blocks, its budget, its return type -/
abbrev am_Me : Type := (Nat → List am_AI) × am_C × Nat
def am_F0 (CT : am_CT) (dfs : Nat → List Value) (M : am_Me) (K : am_K) (P : am_St → Prop) : am_St → Prop := fun x => am_ex CT dfs (fun b ls st h n c => P (b, ls, st, h, n, c)) M.2.1 M.2.2 K (M.1 x.1) x.2.1 x.2.2.1 x.2.2.2.1 x.2.2.2.2.1 x.2.2.2.2.2
theorem am_F0_mono {CT : am_CT} (hC : am_mono CT) {dfs : Nat → List Value} {M : am_Me} {K K' : am_K} {P P' : am_St → Prop} (hP : ∀ x, P x → P' x) (hK : ∀ v h n, K v h n → K' v h n) {x : am_St} : am_F0 CT dfs M K P x → am_F0 CT dfs M K' P' x :=
  am_ex_mono hC (fun _ _ _ _ _ _ => hP _) hK _
def am_LF (CT : am_CT) (dfs : Nat → List Value) (M : am_Me) (K : am_K) (x : am_St) : Prop := ∀ P : am_St → Prop, (∀ y, am_F0 CT dfs M K P y → P y) → P x
theorem am_LF_in {CT : am_CT} (hC : am_mono CT) {dfs : Nat → List Value} {M : am_Me} {K : am_K} {x : am_St} (q : am_F0 CT dfs M K (am_LF CT dfs M K) x) : am_LF CT dfs M K x :=
  fun P hP => hP x (am_F0_mono hC (fun _ z => z P hP) (fun _ _ _ z => z) q)
theorem am_LF_out {CT : am_CT} (hC : am_mono CT) {dfs : Nat → List Value} {M : am_Me} {K : am_K} {x : am_St} (q : am_LF CT dfs M K x) : am_F0 CT dfs M K (am_LF CT dfs M K) x :=
  q (am_F0 CT dfs M K (am_LF CT dfs M K)) fun _ z => am_F0_mono hC (fun _ z => am_LF_in hC z) (fun _ _ _ z => z) z
theorem am_LF_mono {CT : am_CT} (hC : am_mono CT) {dfs : Nat → List Value} {M : am_Me} {K K' : am_K} (hK : ∀ v h n, K v h n → K' v h n) {x : am_St} (q : am_LF CT dfs M K x) : am_LF CT dfs M K' x :=
  fun P hP => q P fun y z => hP y (am_F0_mono hC (fun _ z => z) hK z)
/-- the locals at a method's entry -/
def am_args : List Value → List Value
  | [] => []
  | v :: t => if v.category = 2 then v :: am_U :: am_args t else v :: am_args t
def am_pad (l : List Value) (n : Nat) : List Value := l ++ List.replicate (n - l.length) am_U
/-- calls of depth d -/
def am_CL0 (T : Nat → am_Me) (ml : Nat → Nat) (dfs : Nat → List Value) : Nat → am_CT
  | 0 => fun _ _ _ _ _ => False
  | d + 1 => fun m as h n K => (am_args as).length ≤ ml m ∧ am_LF (am_CL0 T ml dfs d) dfs (T m) K (0, am_pad (am_args as) (ml m), [], h, n, (0, 0))
theorem am_CL0_mono (T : Nat → am_Me) (ml : Nat → Nat) (dfs : Nat → List Value) : ∀ d, am_mono (am_CL0 T ml dfs d)
  | 0 => fun _ _ _ _ _ _ _ q => q
  | d + 1 => fun _ _ _ _ _ _ hK q => ⟨q.1, am_LF_mono (am_CL0_mono T ml dfs d) hK q.2⟩
