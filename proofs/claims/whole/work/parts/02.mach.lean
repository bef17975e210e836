/-! ===== a small pure machine: its worlds are lists of cells, a reference is a place in that list ===== -/
abbrev PW : Type := List va_E
abbrev En : Type := Nat × Instr × Nat × List Nat × List Int
def nth {α : Type} : List α → Nat → Option α
  | [], _ => none
  | a :: _, 0 => some a
  | _ :: l, k + 1 => nth l k
theorem nth_eq {α : Type} : ∀ (l : List α) (k : Nat), nth l k = l[k]?
  | [], _ => by simp [nth]
  | a :: _, 0 => by simp [nth]
  | a :: l, k + 1 => by simp [nth, nth_eq l k]
def lk : List En → Nat → Option En
  | [], _ => none
  | e :: r, pc => match Nat.beq e.1 pc with
    | true => some e
    | false => lk r pc
theorem lk_mem : ∀ (P : List En) (pc : Nat) (e : En), lk P pc = some e → e ∈ P ∧ e.1 = pc
  | [], _, _, h => by simp [lk] at h
  | a :: r, pc, e, h => by
    unfold lk at h
    split at h
    · cases h
      exact ⟨List.mem_cons_self, Nat.eq_of_beq_eq_true (by assumption)⟩
    · obtain ⟨h1, h2⟩ := lk_mem r pc e h
      exact ⟨List.mem_cons_of_mem _ h1, h2⟩
/-! how the places become addresses (sg), the script's own address is ba -/
def vv (sg : Nat → Nat) (ba : Nat) : Value → Value
  | .ref a => .ref (sg a)
  | .float _ => .ref ba
  | v => v
def caR (sg : Nat → Nat) (a : (Nat → Int32) ⊕ (Nat → Int64) ⊕ (Nat → UInt32) ⊕ (Nat → UInt64) ⊕ (Nat → Option Nat)) : (Nat → Int32) ⊕ (Nat → Int64) ⊕ (Nat → UInt32) ⊕ (Nat → UInt64) ⊕ (Nat → Option Nat) := match a with
  | .inr (.inr (.inr (.inr f))) => .inr (.inr (.inr (.inr (fun j => (f j).map sg))))
  | a => a
def cvE (sg : Nat → Nat) (ba : Nat) (kp : Nat → ClassId) : va_E → va_E
  | .inl (k, n, a) => .inl (kp k, n, caR sg a)
  | .inr (ci, fs) => .inr (ci, fs.map (vv sg ba))
def kwW (sg : Nat → Nat) (ba : Nat) (kp : Nat → ClassId) (w : PW) : va_W := w.mapIdx (fun i e => (sg i, cvE sg ba kp e))
def lcv (sg : Nat → Nat) (ba : Nat) : Value → Option Value
  | .int x => some (.int x)
  | .ref a => some (.ref (sg a))
  | .float _ => some (.ref ba)
  | _ => none
def lvl (sg : Nat → Nat) (ba : Nat) (L : List Value) : List (Nat × Value) := L.zipIdx.filterMap (fun q => (lcv sg ba q.1).map (fun v => (q.2, v)))
/-! what a frame's step asks and gives, goal first -/
def pI (S : List Value) (K : Int32 → List Value → Prop) : Prop := match S with
  | .int a :: r => K a r
  | _ => False
def pR (S : List Value) (K : Nat → List Value → Prop) : Prop := match S with
  | .ref a :: r => K a r
  | _ => False
def pJ (S : List Value) (K : Int64 → List Value → Prop) : Prop := match S with
  | .long a :: r => K a r
  | _ => False
def lI (L : List Value) (i : Nat) (K : Int32 → Prop) : Prop := match nth L i with
  | some (.int x) => K x
  | _ => False
def lA (L : List Value) (i : Nat) (K : Value → Prop) : Prop := match nth L i with
  | some (.ref a) => K (.ref a)
  | some (.float u) => K (.float u)
  | _ => False
def oB (w : PW) (a ci : Nat) (K : List Value → Prop) : Prop := match nth w a with
  | some (.inr (c, fs)) => (match Nat.beq c ci with
    | true => K fs
    | false => False)
  | _ => False
def aI (w : PW) (a kd : Nat) (K : Nat → (Nat → Int32) → Prop) : Prop := match nth w a with
  | some (.inl (c, n, .inl f)) => (match Nat.beq c kd with
    | true => K n f
    | false => False)
  | _ => False
def aQ (w : PW) (a kd : Nat) (K : Nat → (Nat → Option Nat) → Prop) : Prop := match nth w a with
  | some (.inl (c, n, .inr (.inr (.inr (.inr f))))) => (match Nat.beq c kd with
    | true => K n f
    | false => False)
  | _ => False
def oN {α : Type} (o : Option α) (K : α → Prop) : Prop := match o with
  | some v => K v
  | none => False
def tB (b : Bool) (K : Prop) : Prop := match b with
  | true => K
  | false => False
def Ix (n : Nat) (i : Int32) (K : Nat → Prop) : Prop := ∃ j : Nat, i = nI j ∧ (j < n ∧ n < 2 ^ 31) ∧ K j
theorem Ix_e {n : Nat} {i : Int32} {K : Nat → Prop} (h : Ix n i K) : vp_in i n ∧ K i.toNatClampNeg := by
  obtain ⟨j, rfl, ⟨h1, h2⟩, h3⟩ := h
  refine ⟨vp_in_nI h1 h2, ?_⟩
  rw [nI_clamp (by omega)]
  exact h3
def Br (c A B : Prop) : Prop := (c → A) ∧ (¬ c → B)
def lit (K : Int32 → Prop) : Int → Prop
  | .ofNat n => K (nI n)
  | .negSucc n => K (-nI (n + 1))
def swK (x : Int32) (K : Nat → Prop) : List Int → Prop
  | v :: t :: r => lit (fun c => Br (x = c) (K t.toNat) (swK x K r)) v
  | [d] => K d.toNat
  | _ => False
theorem pI_e {S : List Value} {K : Int32 → List Value → Prop} (h : pI S K) : ∃ a r, S = .int a :: r ∧ K a r := by
  unfold pI at h; split at h
  · exact ⟨_, _, rfl, h⟩
  · exact h.elim
theorem pR_e {S : List Value} {K : Nat → List Value → Prop} (h : pR S K) : ∃ a r, S = .ref a :: r ∧ K a r := by
  unfold pR at h; split at h
  · exact ⟨_, _, rfl, h⟩
  · exact h.elim
theorem pJ_e {S : List Value} {K : Int64 → List Value → Prop} (h : pJ S K) : ∃ a r, S = .long a :: r ∧ K a r := by
  unfold pJ at h; split at h
  · exact ⟨_, _, rfl, h⟩
  · exact h.elim
theorem lI_e {L : List Value} {i : Nat} {K : Int32 → Prop} (h : lI L i K) : ∃ x, L[i]? = some (.int x) ∧ K x := by
  unfold lI at h; split at h
  · rename_i x e; rw [nth_eq] at e; exact ⟨_, e, h⟩
  · exact h.elim
theorem lA_e {L : List Value} {i : Nat} {K : Value → Prop} (h : lA L i K) : ∃ v, L[i]? = some v ∧ ((∃ a, v = .ref a) ∨ ∃ u, v = .float u) ∧ K v := by
  unfold lA at h; split at h
  · rename_i x e; rw [nth_eq] at e; exact ⟨_, e, Or.inl ⟨_, rfl⟩, h⟩
  · rename_i x e; rw [nth_eq] at e; exact ⟨_, e, Or.inr ⟨_, rfl⟩, h⟩
  · exact h.elim
theorem tB_e {b : Bool} {K : Prop} (h : tB b K) : b = true ∧ K := by
  cases b with
  | true => exact ⟨rfl, h⟩
  | false => exact h.elim
theorem oN_e {α : Type} {o : Option α} {K : α → Prop} (h : oN o K) : ∃ v, o = some v ∧ K v := by
  cases o with
  | none => exact h.elim
  | some v => exact ⟨v, rfl, h⟩
theorem oB_e {w : PW} {a ci : Nat} {K : List Value → Prop} (h : oB w a ci K) : ∃ fs, w[a]? = some (.inr (ci, fs)) ∧ K fs := by
  unfold oB at h; split at h
  · rename_i c fs e
    rw [nth_eq] at e
    split at h
    · have hc := Nat.eq_of_beq_eq_true (by assumption)
      subst hc
      exact ⟨fs, e, h⟩
    · exact h.elim
  · exact h.elim
theorem aI_e {w : PW} {a kd : Nat} {K : Nat → (Nat → Int32) → Prop} (h : aI w a kd K) : ∃ n f, w[a]? = some (.inl (kd, n, .inl f)) ∧ K n f := by
  unfold aI at h; split at h
  · rename_i c n f e
    rw [nth_eq] at e
    split at h
    · have hc := Nat.eq_of_beq_eq_true (by assumption)
      subst hc
      exact ⟨n, f, e, h⟩
    · exact h.elim
  · exact h.elim
theorem aQ_e {w : PW} {a kd : Nat} {K : Nat → (Nat → Option Nat) → Prop} (h : aQ w a kd K) : ∃ n f, w[a]? = some (.inl (kd, n, .inr (.inr (.inr (.inr f))))) ∧ K n f := by
  unfold aQ at h; split at h
  · rename_i c n f e
    rw [nth_eq] at e
    split at h
    · have hc := Nat.eq_of_beq_eq_true (by assumption)
      subst hc
      exact ⟨n, f, e, h⟩
    · exact h.elim
  · exact h.elim
theorem lit_e {K : Int32 → Prop} {n : Int} (h : lit K n) : K (Int32.ofInt n) := by
  cases n with
  | ofNat n => exact h
  | negSucc n =>
    have e : Int32.ofInt (Int.negSucc n) = -nI (n + 1) := by
      rw [Int.negSucc_eq, Int32.ofInt_neg]
      rfl
    rw [e]; exact h
