def e_F : Nat := 10000
def e_lp0 {α : Type} (f : (Sg → Option α) → Sg → Option α) : Nat → Sg → Option α
  | 0, _ => none
  | n + 1, s => f (e_lp0 f n)  s
def e_lp1 {A0 : Type} {α : Type} (f : (A0 → Sg → Option α) → A0 → Sg → Option α) : Nat → A0 → Sg → Option α
  | 0, _, _ => none
  | n + 1, a0, s => f (e_lp1 f n) a0 s
def e_lp2 {A0 A1 : Type} {α : Type} (f : (A0 → A1 → Sg → Option α) → A0 → A1 → Sg → Option α) : Nat → A0 → A1 → Sg → Option α
  | 0, _, _, _ => none
  | n + 1, a0, a1, s => f (e_lp2 f n) a0 a1 s
def e_lp3 {A0 A1 A2 : Type} {α : Type} (f : (A0 → A1 → A2 → Sg → Option α) → A0 → A1 → A2 → Sg → Option α) : Nat → A0 → A1 → A2 → Sg → Option α
  | 0, _, _, _, _ => none
  | n + 1, a0, a1, a2, s => f (e_lp3 f n) a0 a1 a2 s
def e_lp4 {A0 A1 A2 A3 : Type} {α : Type} (f : (A0 → A1 → A2 → A3 → Sg → Option α) → A0 → A1 → A2 → A3 → Sg → Option α) : Nat → A0 → A1 → A2 → A3 → Sg → Option α
  | 0, _, _, _, _, _ => none
  | n + 1, a0, a1, a2, a3, s => f (e_lp4 f n) a0 a1 a2 a3 s
def e_lp5 {A0 A1 A2 A3 A4 : Type} {α : Type} (f : (A0 → A1 → A2 → A3 → A4 → Sg → Option α) → A0 → A1 → A2 → A3 → A4 → Sg → Option α) : Nat → A0 → A1 → A2 → A3 → A4 → Sg → Option α
  | 0, _, _, _, _, _, _ => none
  | n + 1, a0, a1, a2, a3, a4, s => f (e_lp5 f n) a0 a1 a2 a3 a4 s
def e_lp6 {A0 A1 A2 A3 A4 A5 : Type} {α : Type} (f : (A0 → A1 → A2 → A3 → A4 → A5 → Sg → Option α) → A0 → A1 → A2 → A3 → A4 → A5 → Sg → Option α) : Nat → A0 → A1 → A2 → A3 → A4 → A5 → Sg → Option α
  | 0, _, _, _, _, _, _, _ => none
  | n + 1, a0, a1, a2, a3, a4, a5, s => f (e_lp6 f n) a0 a1 a2 a3 a4 a5 s
def e_lp7 {A0 A1 A2 A3 A4 A5 A6 : Type} {α : Type} (f : (A0 → A1 → A2 → A3 → A4 → A5 → A6 → Sg → Option α) → A0 → A1 → A2 → A3 → A4 → A5 → A6 → Sg → Option α) : Nat → A0 → A1 → A2 → A3 → A4 → A5 → A6 → Sg → Option α
  | 0, _, _, _, _, _, _, _, _ => none
  | n + 1, a0, a1, a2, a3, a4, a5, a6, s => f (e_lp7 f n) a0 a1 a2 a3 a4 a5 a6 s
def e_lp8 {A0 A1 A2 A3 A4 A5 A6 A7 : Type} {α : Type} (f : (A0 → A1 → A2 → A3 → A4 → A5 → A6 → A7 → Sg → Option α) → A0 → A1 → A2 → A3 → A4 → A5 → A6 → A7 → Sg → Option α) : Nat → A0 → A1 → A2 → A3 → A4 → A5 → A6 → A7 → Sg → Option α
  | 0, _, _, _, _, _, _, _, _, _ => none
  | n + 1, a0, a1, a2, a3, a4, a5, a6, a7, s => f (e_lp8 f n) a0 a1 a2 a3 a4 a5 a6 a7 s
section OK2
variable {G : KW} {l : Launch} {cc : ByteArray} {nL : Nat} {own : String} {rt : Option FieldType} {R : Room} {α : Type} {X : State → Array Value → Method → Prop} {Z : α → List Frame → Array Value → State → State → Prop} {k0 n0 pc : Nat} {L : List (Option Value)} {S : List Value} {σ : Sg} {E : Option α}
theorem ok_lp0 {Lf : List (Option Value)} {f : (Sg → Option α) → Sg → Option α} (h : ∀ H : Sg → Option α, (∀  (σ : Sg), Okg G l cc nL own rt R X Z k0 n0 pc (Lf ) S σ (H  σ)) → ∀  (σ : Sg), Okg G l cc nL own rt R X Z k0 n0 pc (Lf ) S σ (f H  σ)) : ∀ (n : Nat)  (σ : Sg), Okg G l cc nL own rt R X Z k0 n0 pc (Lf ) S σ (e_lp0 f n  σ) := by
  intro n
  induction n with
  | zero => intro  σ a ha; cases ha
  | succ n ih => intro  σ; exact h (e_lp0 f n) ih  σ
theorem ok_lp1 {A0 : Type} {Lf : A0 → List (Option Value)} {f : (A0 → Sg → Option α) → A0 → Sg → Option α} (h : ∀ H : A0 → Sg → Option α, (∀ (a0 : A0) (σ : Sg), Okg G l cc nL own rt R X Z k0 n0 pc (Lf a0) S σ (H a0 σ)) → ∀ (a0 : A0) (σ : Sg), Okg G l cc nL own rt R X Z k0 n0 pc (Lf a0) S σ (f H a0 σ)) : ∀ (n : Nat) (a0 : A0) (σ : Sg), Okg G l cc nL own rt R X Z k0 n0 pc (Lf a0) S σ (e_lp1 f n a0 σ) := by
  intro n
  induction n with
  | zero => intro a0 σ a ha; cases ha
  | succ n ih => intro a0 σ; exact h (e_lp1 f n) ih a0 σ
theorem ok_lp2 {A0 A1 : Type} {Lf : A0 → A1 → List (Option Value)} {f : (A0 → A1 → Sg → Option α) → A0 → A1 → Sg → Option α} (h : ∀ H : A0 → A1 → Sg → Option α, (∀ (a0 : A0) (a1 : A1) (σ : Sg), Okg G l cc nL own rt R X Z k0 n0 pc (Lf a0 a1) S σ (H a0 a1 σ)) → ∀ (a0 : A0) (a1 : A1) (σ : Sg), Okg G l cc nL own rt R X Z k0 n0 pc (Lf a0 a1) S σ (f H a0 a1 σ)) : ∀ (n : Nat) (a0 : A0) (a1 : A1) (σ : Sg), Okg G l cc nL own rt R X Z k0 n0 pc (Lf a0 a1) S σ (e_lp2 f n a0 a1 σ) := by
  intro n
  induction n with
  | zero => intro a0 a1 σ a ha; cases ha
  | succ n ih => intro a0 a1 σ; exact h (e_lp2 f n) ih a0 a1 σ
theorem ok_lp3 {A0 A1 A2 : Type} {Lf : A0 → A1 → A2 → List (Option Value)} {f : (A0 → A1 → A2 → Sg → Option α) → A0 → A1 → A2 → Sg → Option α} (h : ∀ H : A0 → A1 → A2 → Sg → Option α, (∀ (a0 : A0) (a1 : A1) (a2 : A2) (σ : Sg), Okg G l cc nL own rt R X Z k0 n0 pc (Lf a0 a1 a2) S σ (H a0 a1 a2 σ)) → ∀ (a0 : A0) (a1 : A1) (a2 : A2) (σ : Sg), Okg G l cc nL own rt R X Z k0 n0 pc (Lf a0 a1 a2) S σ (f H a0 a1 a2 σ)) : ∀ (n : Nat) (a0 : A0) (a1 : A1) (a2 : A2) (σ : Sg), Okg G l cc nL own rt R X Z k0 n0 pc (Lf a0 a1 a2) S σ (e_lp3 f n a0 a1 a2 σ) := by
  intro n
  induction n with
  | zero => intro a0 a1 a2 σ a ha; cases ha
  | succ n ih => intro a0 a1 a2 σ; exact h (e_lp3 f n) ih a0 a1 a2 σ
theorem ok_lp4 {A0 A1 A2 A3 : Type} {Lf : A0 → A1 → A2 → A3 → List (Option Value)} {f : (A0 → A1 → A2 → A3 → Sg → Option α) → A0 → A1 → A2 → A3 → Sg → Option α} (h : ∀ H : A0 → A1 → A2 → A3 → Sg → Option α, (∀ (a0 : A0) (a1 : A1) (a2 : A2) (a3 : A3) (σ : Sg), Okg G l cc nL own rt R X Z k0 n0 pc (Lf a0 a1 a2 a3) S σ (H a0 a1 a2 a3 σ)) → ∀ (a0 : A0) (a1 : A1) (a2 : A2) (a3 : A3) (σ : Sg), Okg G l cc nL own rt R X Z k0 n0 pc (Lf a0 a1 a2 a3) S σ (f H a0 a1 a2 a3 σ)) : ∀ (n : Nat) (a0 : A0) (a1 : A1) (a2 : A2) (a3 : A3) (σ : Sg), Okg G l cc nL own rt R X Z k0 n0 pc (Lf a0 a1 a2 a3) S σ (e_lp4 f n a0 a1 a2 a3 σ) := by
  intro n
  induction n with
  | zero => intro a0 a1 a2 a3 σ a ha; cases ha
  | succ n ih => intro a0 a1 a2 a3 σ; exact h (e_lp4 f n) ih a0 a1 a2 a3 σ
theorem ok_lp5 {A0 A1 A2 A3 A4 : Type} {Lf : A0 → A1 → A2 → A3 → A4 → List (Option Value)} {f : (A0 → A1 → A2 → A3 → A4 → Sg → Option α) → A0 → A1 → A2 → A3 → A4 → Sg → Option α} (h : ∀ H : A0 → A1 → A2 → A3 → A4 → Sg → Option α, (∀ (a0 : A0) (a1 : A1) (a2 : A2) (a3 : A3) (a4 : A4) (σ : Sg), Okg G l cc nL own rt R X Z k0 n0 pc (Lf a0 a1 a2 a3 a4) S σ (H a0 a1 a2 a3 a4 σ)) → ∀ (a0 : A0) (a1 : A1) (a2 : A2) (a3 : A3) (a4 : A4) (σ : Sg), Okg G l cc nL own rt R X Z k0 n0 pc (Lf a0 a1 a2 a3 a4) S σ (f H a0 a1 a2 a3 a4 σ)) : ∀ (n : Nat) (a0 : A0) (a1 : A1) (a2 : A2) (a3 : A3) (a4 : A4) (σ : Sg), Okg G l cc nL own rt R X Z k0 n0 pc (Lf a0 a1 a2 a3 a4) S σ (e_lp5 f n a0 a1 a2 a3 a4 σ) := by
  intro n
  induction n with
  | zero => intro a0 a1 a2 a3 a4 σ a ha; cases ha
  | succ n ih => intro a0 a1 a2 a3 a4 σ; exact h (e_lp5 f n) ih a0 a1 a2 a3 a4 σ
theorem ok_lp6 {A0 A1 A2 A3 A4 A5 : Type} {Lf : A0 → A1 → A2 → A3 → A4 → A5 → List (Option Value)} {f : (A0 → A1 → A2 → A3 → A4 → A5 → Sg → Option α) → A0 → A1 → A2 → A3 → A4 → A5 → Sg → Option α} (h : ∀ H : A0 → A1 → A2 → A3 → A4 → A5 → Sg → Option α, (∀ (a0 : A0) (a1 : A1) (a2 : A2) (a3 : A3) (a4 : A4) (a5 : A5) (σ : Sg), Okg G l cc nL own rt R X Z k0 n0 pc (Lf a0 a1 a2 a3 a4 a5) S σ (H a0 a1 a2 a3 a4 a5 σ)) → ∀ (a0 : A0) (a1 : A1) (a2 : A2) (a3 : A3) (a4 : A4) (a5 : A5) (σ : Sg), Okg G l cc nL own rt R X Z k0 n0 pc (Lf a0 a1 a2 a3 a4 a5) S σ (f H a0 a1 a2 a3 a4 a5 σ)) : ∀ (n : Nat) (a0 : A0) (a1 : A1) (a2 : A2) (a3 : A3) (a4 : A4) (a5 : A5) (σ : Sg), Okg G l cc nL own rt R X Z k0 n0 pc (Lf a0 a1 a2 a3 a4 a5) S σ (e_lp6 f n a0 a1 a2 a3 a4 a5 σ) := by
  intro n
  induction n with
  | zero => intro a0 a1 a2 a3 a4 a5 σ a ha; cases ha
  | succ n ih => intro a0 a1 a2 a3 a4 a5 σ; exact h (e_lp6 f n) ih a0 a1 a2 a3 a4 a5 σ
theorem ok_lp7 {A0 A1 A2 A3 A4 A5 A6 : Type} {Lf : A0 → A1 → A2 → A3 → A4 → A5 → A6 → List (Option Value)} {f : (A0 → A1 → A2 → A3 → A4 → A5 → A6 → Sg → Option α) → A0 → A1 → A2 → A3 → A4 → A5 → A6 → Sg → Option α} (h : ∀ H : A0 → A1 → A2 → A3 → A4 → A5 → A6 → Sg → Option α, (∀ (a0 : A0) (a1 : A1) (a2 : A2) (a3 : A3) (a4 : A4) (a5 : A5) (a6 : A6) (σ : Sg), Okg G l cc nL own rt R X Z k0 n0 pc (Lf a0 a1 a2 a3 a4 a5 a6) S σ (H a0 a1 a2 a3 a4 a5 a6 σ)) → ∀ (a0 : A0) (a1 : A1) (a2 : A2) (a3 : A3) (a4 : A4) (a5 : A5) (a6 : A6) (σ : Sg), Okg G l cc nL own rt R X Z k0 n0 pc (Lf a0 a1 a2 a3 a4 a5 a6) S σ (f H a0 a1 a2 a3 a4 a5 a6 σ)) : ∀ (n : Nat) (a0 : A0) (a1 : A1) (a2 : A2) (a3 : A3) (a4 : A4) (a5 : A5) (a6 : A6) (σ : Sg), Okg G l cc nL own rt R X Z k0 n0 pc (Lf a0 a1 a2 a3 a4 a5 a6) S σ (e_lp7 f n a0 a1 a2 a3 a4 a5 a6 σ) := by
  intro n
  induction n with
  | zero => intro a0 a1 a2 a3 a4 a5 a6 σ a ha; cases ha
  | succ n ih => intro a0 a1 a2 a3 a4 a5 a6 σ; exact h (e_lp7 f n) ih a0 a1 a2 a3 a4 a5 a6 σ
theorem ok_lp8 {A0 A1 A2 A3 A4 A5 A6 A7 : Type} {Lf : A0 → A1 → A2 → A3 → A4 → A5 → A6 → A7 → List (Option Value)} {f : (A0 → A1 → A2 → A3 → A4 → A5 → A6 → A7 → Sg → Option α) → A0 → A1 → A2 → A3 → A4 → A5 → A6 → A7 → Sg → Option α} (h : ∀ H : A0 → A1 → A2 → A3 → A4 → A5 → A6 → A7 → Sg → Option α, (∀ (a0 : A0) (a1 : A1) (a2 : A2) (a3 : A3) (a4 : A4) (a5 : A5) (a6 : A6) (a7 : A7) (σ : Sg), Okg G l cc nL own rt R X Z k0 n0 pc (Lf a0 a1 a2 a3 a4 a5 a6 a7) S σ (H a0 a1 a2 a3 a4 a5 a6 a7 σ)) → ∀ (a0 : A0) (a1 : A1) (a2 : A2) (a3 : A3) (a4 : A4) (a5 : A5) (a6 : A6) (a7 : A7) (σ : Sg), Okg G l cc nL own rt R X Z k0 n0 pc (Lf a0 a1 a2 a3 a4 a5 a6 a7) S σ (f H a0 a1 a2 a3 a4 a5 a6 a7 σ)) : ∀ (n : Nat) (a0 : A0) (a1 : A1) (a2 : A2) (a3 : A3) (a4 : A4) (a5 : A5) (a6 : A6) (a7 : A7) (σ : Sg), Okg G l cc nL own rt R X Z k0 n0 pc (Lf a0 a1 a2 a3 a4 a5 a6 a7) S σ (e_lp8 f n a0 a1 a2 a3 a4 a5 a6 a7 σ) := by
  intro n
  induction n with
  | zero => intro a0 a1 a2 a3 a4 a5 a6 a7 σ a ha; cases ha
  | succ n ih => intro a0 a1 a2 a3 a4 a5 a6 a7 σ; exact h (e_lp8 f n) ih a0 a1 a2 a3 a4 a5 a6 a7 σ
theorem ok_gI {x : Int32} {F : Int32 → Option α} (k : ∀ v : Int32, Okg G l cc nL own rt R X Z k0 n0 pc L (.int v :: S) σ (F v)) : Okg G l cc nL own rt R X Z k0 n0 pc L (.int x :: S) σ (e_lt x F) := k x
theorem ok_gJ {x : Int64} {F : Int64 → Option α} (k : ∀ v : Int64, Okg G l cc nL own rt R X Z k0 n0 pc L (.long v :: S) σ (F v)) : Okg G l cc nL own rt R X Z k0 n0 pc L (.long x :: S) σ (e_lt x F) := k x
theorem ok_jinc0 {r : List (Option Value)} {x w : Int32} {n : Int} (d : decode cc pc = .ok (.iinc 0 n, 3)) (hw : Int32.ofInt n = w) (hn : 0 < nL) (k : Okg G l cc nL own rt R X Z k0 n0 (pc + 3) (some (.int (x + w)) :: r) S σ E) : Okg G l cc nL own rt R X Z k0 n0 pc (some (.int x) :: r) S σ E := ok_iinc0 d (by rw [hw]) hn k
theorem ok_jinc1 {a0 : Option Value} {r : List (Option Value)} {x w : Int32} {n : Int} (d : decode cc pc = .ok (.iinc 1 n, 3)) (hw : Int32.ofInt n = w) (ho : k_oc a0 = 1) (hn : 1 < nL) (k : Okg G l cc nL own rt R X Z k0 n0 (pc + 3) (a0 :: some (.int (x + w)) :: r) S σ E) : Okg G l cc nL own rt R X Z k0 n0 pc (a0 :: some (.int x) :: r) S σ E := ok_iinc1 d (by rw [hw]) ho hn k
theorem ok_jinc2 {a0 a1 : Option Value} {r : List (Option Value)} {x w : Int32} {n : Int} (d : decode cc pc = .ok (.iinc 2 n, 3)) (hw : Int32.ofInt n = w) (ho : k_oc a1 = 1) (hn : 2 < nL) (k : Okg G l cc nL own rt R X Z k0 n0 (pc + 3) (a0 :: a1 :: some (.int (x + w)) :: r) S σ E) : Okg G l cc nL own rt R X Z k0 n0 pc (a0 :: a1 :: some (.int x) :: r) S σ E := ok_iinc2 d (by rw [hw]) ho hn k
theorem ok_jinc3 {a0 a1 a2 : Option Value} {r : List (Option Value)} {x w : Int32} {n : Int} (d : decode cc pc = .ok (.iinc 3 n, 3)) (hw : Int32.ofInt n = w) (ho : k_oc a2 = 1) (hn : 3 < nL) (k : Okg G l cc nL own rt R X Z k0 n0 (pc + 3) (a0 :: a1 :: a2 :: some (.int (x + w)) :: r) S σ E) : Okg G l cc nL own rt R X Z k0 n0 pc (a0 :: a1 :: a2 :: some (.int x) :: r) S σ E := ok_iinc3 d (by rw [hw]) ho hn k
theorem ok_jinc4 {a0 a1 a2 a3 : Option Value} {r : List (Option Value)} {x w : Int32} {n : Int} (d : decode cc pc = .ok (.iinc 4 n, 3)) (hw : Int32.ofInt n = w) (ho : k_oc a3 = 1) (hn : 4 < nL) (k : Okg G l cc nL own rt R X Z k0 n0 (pc + 3) (a0 :: a1 :: a2 :: a3 :: some (.int (x + w)) :: r) S σ E) : Okg G l cc nL own rt R X Z k0 n0 pc (a0 :: a1 :: a2 :: a3 :: some (.int x) :: r) S σ E := ok_iinc4 d (by rw [hw]) ho hn k
theorem ok_jinc5 {a0 a1 a2 a3 a4 : Option Value} {r : List (Option Value)} {x w : Int32} {n : Int} (d : decode cc pc = .ok (.iinc 5 n, 3)) (hw : Int32.ofInt n = w) (ho : k_oc a4 = 1) (hn : 5 < nL) (k : Okg G l cc nL own rt R X Z k0 n0 (pc + 3) (a0 :: a1 :: a2 :: a3 :: a4 :: some (.int (x + w)) :: r) S σ E) : Okg G l cc nL own rt R X Z k0 n0 pc (a0 :: a1 :: a2 :: a3 :: a4 :: some (.int x) :: r) S σ E := ok_iinc5 d (by rw [hw]) ho hn k
theorem ok_jinc6 {a0 a1 a2 a3 a4 a5 : Option Value} {r : List (Option Value)} {x w : Int32} {n : Int} (d : decode cc pc = .ok (.iinc 6 n, 3)) (hw : Int32.ofInt n = w) (ho : k_oc a5 = 1) (hn : 6 < nL) (k : Okg G l cc nL own rt R X Z k0 n0 (pc + 3) (a0 :: a1 :: a2 :: a3 :: a4 :: a5 :: some (.int (x + w)) :: r) S σ E) : Okg G l cc nL own rt R X Z k0 n0 pc (a0 :: a1 :: a2 :: a3 :: a4 :: a5 :: some (.int x) :: r) S σ E := ok_iinc6 d (by rw [hw]) ho hn k
theorem ok_jinc7 {a0 a1 a2 a3 a4 a5 a6 : Option Value} {r : List (Option Value)} {x w : Int32} {n : Int} (d : decode cc pc = .ok (.iinc 7 n, 3)) (hw : Int32.ofInt n = w) (ho : k_oc a6 = 1) (hn : 7 < nL) (k : Okg G l cc nL own rt R X Z k0 n0 (pc + 3) (a0 :: a1 :: a2 :: a3 :: a4 :: a5 :: a6 :: some (.int (x + w)) :: r) S σ E) : Okg G l cc nL own rt R X Z k0 n0 pc (a0 :: a1 :: a2 :: a3 :: a4 :: a5 :: a6 :: some (.int x) :: r) S σ E := ok_iinc7 d (by rw [hw]) ho hn k
theorem ok_jinc8 {a0 a1 a2 a3 a4 a5 a6 a7 : Option Value} {r : List (Option Value)} {x w : Int32} {n : Int} (d : decode cc pc = .ok (.iinc 8 n, 3)) (hw : Int32.ofInt n = w) (ho : k_oc a7 = 1) (hn : 8 < nL) (k : Okg G l cc nL own rt R X Z k0 n0 (pc + 3) (a0 :: a1 :: a2 :: a3 :: a4 :: a5 :: a6 :: a7 :: some (.int (x + w)) :: r) S σ E) : Okg G l cc nL own rt R X Z k0 n0 pc (a0 :: a1 :: a2 :: a3 :: a4 :: a5 :: a6 :: a7 :: some (.int x) :: r) S σ E := ok_iinc8 d (by rw [hw]) ho hn k
theorem ok_jinc9 {a0 a1 a2 a3 a4 a5 a6 a7 a8 : Option Value} {r : List (Option Value)} {x w : Int32} {n : Int} (d : decode cc pc = .ok (.iinc 9 n, 3)) (hw : Int32.ofInt n = w) (ho : k_oc a8 = 1) (hn : 9 < nL) (k : Okg G l cc nL own rt R X Z k0 n0 (pc + 3) (a0 :: a1 :: a2 :: a3 :: a4 :: a5 :: a6 :: a7 :: a8 :: some (.int (x + w)) :: r) S σ E) : Okg G l cc nL own rt R X Z k0 n0 pc (a0 :: a1 :: a2 :: a3 :: a4 :: a5 :: a6 :: a7 :: a8 :: some (.int x) :: r) S σ E := ok_iinc9 d (by rw [hw]) ho hn k
theorem ok_jinc10 {a0 a1 a2 a3 a4 a5 a6 a7 a8 a9 : Option Value} {r : List (Option Value)} {x w : Int32} {n : Int} (d : decode cc pc = .ok (.iinc 10 n, 3)) (hw : Int32.ofInt n = w) (ho : k_oc a9 = 1) (hn : 10 < nL) (k : Okg G l cc nL own rt R X Z k0 n0 (pc + 3) (a0 :: a1 :: a2 :: a3 :: a4 :: a5 :: a6 :: a7 :: a8 :: a9 :: some (.int (x + w)) :: r) S σ E) : Okg G l cc nL own rt R X Z k0 n0 pc (a0 :: a1 :: a2 :: a3 :: a4 :: a5 :: a6 :: a7 :: a8 :: a9 :: some (.int x) :: r) S σ E := ok_iinc10 d (by rw [hw]) ho hn k
theorem ok_jinc11 {a0 a1 a2 a3 a4 a5 a6 a7 a8 a9 a10 : Option Value} {r : List (Option Value)} {x w : Int32} {n : Int} (d : decode cc pc = .ok (.iinc 11 n, 3)) (hw : Int32.ofInt n = w) (ho : k_oc a10 = 1) (hn : 11 < nL) (k : Okg G l cc nL own rt R X Z k0 n0 (pc + 3) (a0 :: a1 :: a2 :: a3 :: a4 :: a5 :: a6 :: a7 :: a8 :: a9 :: a10 :: some (.int (x + w)) :: r) S σ E) : Okg G l cc nL own rt R X Z k0 n0 pc (a0 :: a1 :: a2 :: a3 :: a4 :: a5 :: a6 :: a7 :: a8 :: a9 :: a10 :: some (.int x) :: r) S σ E := ok_iinc11 d (by rw [hw]) ho hn k
end OK2
def e_cI {α : Type} (e : Option (Int32 × Sg)) (F : Int32 → Sg → Option α) : Option α := e.bind (fun b => F b.1 b.2)
def e_cJ {α : Type} (e : Option (Int64 × Sg)) (F : Int64 → Sg → Option α) : Option α := e.bind (fun b => F b.1 b.2)
def e_cR {α : Type} (e : Option (Nat × Sg)) (F : Nat → Sg → Option α) : Option α := e.bind (fun b => F b.1 b.2)
def e_cV {α : Type} (e : Option Sg) (F : Sg → Option α) : Option α := e.bind F
def k_ar (k : Nat) : Bool := decide (k < 123 ∧ k_kd k = 8)
theorem k_ar_of {k : Nat} (h : k_ar k = true) : k < 123 ∧ k_kd k = 8 ∧ k_ln k = k_ln k := by
  have h2 : k < 123 ∧ k_kd k = 8 := of_decide_eq_true h
  exact ⟨h2.1, h2.2, rfl⟩
def k_twb (k : Nat) : Bool := k == 1 || (k == 15 || (k == 29 || (k == 43 || (k == 66 || k == 83))))
theorem k_tw_of {k : Nat} (h : k_twb k = true) : k_tw k := by
  simpa [k_twb, k_tw] using h
theorem tw_1 : k_tw 1 := by unfold k_tw; omega
theorem tw_15 : k_tw 15 := by unfold k_tw; omega
theorem tw_29 : k_tw 29 := by unfold k_tw; omega
theorem tw_43 : k_tw 43 := by unfold k_tw; omega
theorem tw_66 : k_tw 66 := by unfold k_tw; omega
theorem tw_83 : k_tw 83 := by unfold k_tw; omega
theorem ko_0 : 0 < 123 ∧ k_kd 0 = 6 := by decide
theorem ko_1 : 1 < 123 ∧ k_kd 1 = 4 := by decide
theorem ka_2 : 2 < 123 ∧ k_kd 2 = 8 ∧ k_ln 2 = 5 := by decide
theorem ka_3 : 3 < 123 ∧ k_kd 3 = 8 ∧ k_ln 3 = 5 := by decide
theorem ka_4 : 4 < 123 ∧ k_kd 4 = 8 ∧ k_ln 4 = 5 := by decide
theorem ka_5 : 5 < 123 ∧ k_kd 5 = 8 ∧ k_ln 5 = 5 := by decide
theorem ka_6 : 6 < 123 ∧ k_kd 6 = 8 ∧ k_ln 6 = 5 := by decide
theorem ka_7 : 7 < 123 ∧ k_kd 7 = 8 ∧ k_ln 7 = 5 := by decide
theorem ka_8 : 8 < 123 ∧ k_kd 8 = 8 ∧ k_ln 8 = 5 := by decide
theorem ka_9 : 9 < 123 ∧ k_kd 9 = 8 ∧ k_ln 9 = 5 := by decide
theorem ka_10 : 10 < 123 ∧ k_kd 10 = 8 ∧ k_ln 10 = 5 := by decide
theorem ka_11 : 11 < 123 ∧ k_kd 11 = 8 ∧ k_ln 11 = 5 := by decide
theorem ka_12 : 12 < 123 ∧ k_kd 12 = 8 ∧ k_ln 12 = 5 := by decide
theorem ka_13 : 13 < 123 ∧ k_kd 13 = 8 ∧ k_ln 13 = 6 := by decide
theorem ka_14 : 14 < 123 ∧ k_kd 14 = 8 ∧ k_ln 14 = 6 := by decide
theorem ko_15 : 15 < 123 ∧ k_kd 15 = 4 := by decide
theorem ka_16 : 16 < 123 ∧ k_kd 16 = 8 ∧ k_ln 16 = 5 := by decide
theorem ka_17 : 17 < 123 ∧ k_kd 17 = 8 ∧ k_ln 17 = 5 := by decide
theorem ka_18 : 18 < 123 ∧ k_kd 18 = 8 ∧ k_ln 18 = 5 := by decide
theorem ka_19 : 19 < 123 ∧ k_kd 19 = 8 ∧ k_ln 19 = 5 := by decide
theorem ka_20 : 20 < 123 ∧ k_kd 20 = 8 ∧ k_ln 20 = 5 := by decide
theorem ka_21 : 21 < 123 ∧ k_kd 21 = 8 ∧ k_ln 21 = 5 := by decide
theorem ka_22 : 22 < 123 ∧ k_kd 22 = 8 ∧ k_ln 22 = 5 := by decide
theorem ka_23 : 23 < 123 ∧ k_kd 23 = 8 ∧ k_ln 23 = 5 := by decide
theorem ka_24 : 24 < 123 ∧ k_kd 24 = 8 ∧ k_ln 24 = 5 := by decide
theorem ka_25 : 25 < 123 ∧ k_kd 25 = 8 ∧ k_ln 25 = 5 := by decide
theorem ka_26 : 26 < 123 ∧ k_kd 26 = 8 ∧ k_ln 26 = 5 := by decide
theorem ka_27 : 27 < 123 ∧ k_kd 27 = 8 ∧ k_ln 27 = 6 := by decide
theorem ka_28 : 28 < 123 ∧ k_kd 28 = 8 ∧ k_ln 28 = 6 := by decide
theorem ko_29 : 29 < 123 ∧ k_kd 29 = 4 := by decide
theorem ka_30 : 30 < 123 ∧ k_kd 30 = 8 ∧ k_ln 30 = 5 := by decide
theorem ka_31 : 31 < 123 ∧ k_kd 31 = 8 ∧ k_ln 31 = 5 := by decide
theorem ka_32 : 32 < 123 ∧ k_kd 32 = 8 ∧ k_ln 32 = 5 := by decide
theorem ka_33 : 33 < 123 ∧ k_kd 33 = 8 ∧ k_ln 33 = 5 := by decide
theorem ka_34 : 34 < 123 ∧ k_kd 34 = 8 ∧ k_ln 34 = 5 := by decide
theorem ka_35 : 35 < 123 ∧ k_kd 35 = 8 ∧ k_ln 35 = 5 := by decide
theorem ka_36 : 36 < 123 ∧ k_kd 36 = 8 ∧ k_ln 36 = 5 := by decide
theorem ka_37 : 37 < 123 ∧ k_kd 37 = 8 ∧ k_ln 37 = 5 := by decide
theorem ka_38 : 38 < 123 ∧ k_kd 38 = 8 ∧ k_ln 38 = 5 := by decide
theorem ka_39 : 39 < 123 ∧ k_kd 39 = 8 ∧ k_ln 39 = 5 := by decide
theorem ka_40 : 40 < 123 ∧ k_kd 40 = 8 ∧ k_ln 40 = 5 := by decide
theorem ka_41 : 41 < 123 ∧ k_kd 41 = 8 ∧ k_ln 41 = 6 := by decide
theorem ka_42 : 42 < 123 ∧ k_kd 42 = 8 ∧ k_ln 42 = 6 := by decide
theorem ko_43 : 43 < 123 ∧ k_kd 43 = 4 := by decide
theorem ka_44 : 44 < 123 ∧ k_kd 44 = 8 ∧ k_ln 44 = 5 := by decide
theorem ka_45 : 45 < 123 ∧ k_kd 45 = 8 ∧ k_ln 45 = 5 := by decide
theorem ka_46 : 46 < 123 ∧ k_kd 46 = 8 ∧ k_ln 46 = 5 := by decide
theorem ka_47 : 47 < 123 ∧ k_kd 47 = 8 ∧ k_ln 47 = 5 := by decide
theorem ka_48 : 48 < 123 ∧ k_kd 48 = 8 ∧ k_ln 48 = 5 := by decide
theorem ka_49 : 49 < 123 ∧ k_kd 49 = 8 ∧ k_ln 49 = 5 := by decide
theorem ka_50 : 50 < 123 ∧ k_kd 50 = 8 ∧ k_ln 50 = 5 := by decide
theorem ka_51 : 51 < 123 ∧ k_kd 51 = 8 ∧ k_ln 51 = 5 := by decide
theorem ka_52 : 52 < 123 ∧ k_kd 52 = 8 ∧ k_ln 52 = 5 := by decide
theorem ka_53 : 53 < 123 ∧ k_kd 53 = 8 ∧ k_ln 53 = 5 := by decide
theorem ka_54 : 54 < 123 ∧ k_kd 54 = 8 ∧ k_ln 54 = 5 := by decide
theorem ka_55 : 55 < 123 ∧ k_kd 55 = 8 ∧ k_ln 55 = 6 := by decide
theorem ka_56 : 56 < 123 ∧ k_kd 56 = 8 ∧ k_ln 56 = 6 := by decide
theorem ka_57 : 57 < 123 ∧ k_kd 57 = 9 ∧ k_ln 57 = 2 := by decide
theorem ko_58 : 58 < 123 ∧ k_kd 58 = 1 := by decide
theorem ka_59 : 59 < 123 ∧ k_kd 59 = 8 ∧ k_ln 59 = 60 := by decide
theorem ko_60 : 60 < 123 ∧ k_kd 60 = 3 := by decide
theorem ka_61 : 61 < 123 ∧ k_kd 61 = 8 ∧ k_ln 61 = 5 := by decide
theorem ka_62 : 62 < 123 ∧ k_kd 62 = 8 ∧ k_ln 62 = 5 := by decide
theorem ka_63 : 63 < 123 ∧ k_kd 63 = 8 ∧ k_ln 63 = 5 := by decide
theorem ko_64 : 64 < 123 ∧ k_kd 64 = 0 := by decide
theorem ko_65 : 65 < 123 ∧ k_kd 65 = 5 := by decide
theorem ko_66 : 66 < 123 ∧ k_kd 66 = 4 := by decide
theorem ka_67 : 67 < 123 ∧ k_kd 67 = 8 ∧ k_ln 67 = 5 := by decide
theorem ka_68 : 68 < 123 ∧ k_kd 68 = 8 ∧ k_ln 68 = 5 := by decide
theorem ka_69 : 69 < 123 ∧ k_kd 69 = 8 ∧ k_ln 69 = 5 := by decide
theorem ka_70 : 70 < 123 ∧ k_kd 70 = 8 ∧ k_ln 70 = 5 := by decide
theorem ka_71 : 71 < 123 ∧ k_kd 71 = 8 ∧ k_ln 71 = 5 := by decide
theorem ka_72 : 72 < 123 ∧ k_kd 72 = 8 ∧ k_ln 72 = 5 := by decide
theorem ka_73 : 73 < 123 ∧ k_kd 73 = 8 ∧ k_ln 73 = 5 := by decide
theorem ka_74 : 74 < 123 ∧ k_kd 74 = 8 ∧ k_ln 74 = 5 := by decide
theorem ka_75 : 75 < 123 ∧ k_kd 75 = 8 ∧ k_ln 75 = 5 := by decide
theorem ka_76 : 76 < 123 ∧ k_kd 76 = 8 ∧ k_ln 76 = 5 := by decide
theorem ka_77 : 77 < 123 ∧ k_kd 77 = 8 ∧ k_ln 77 = 5 := by decide
theorem ka_78 : 78 < 123 ∧ k_kd 78 = 8 ∧ k_ln 78 = 6 := by decide
theorem ka_79 : 79 < 123 ∧ k_kd 79 = 8 ∧ k_ln 79 = 6 := by decide
theorem ka_80 : 80 < 123 ∧ k_kd 80 = 8 ∧ k_ln 80 = 5 := by decide
theorem ka_81 : 81 < 123 ∧ k_kd 81 = 8 ∧ k_ln 81 = 98 := by decide
theorem ko_82 : 82 < 123 ∧ k_kd 82 = 2 := by decide
theorem ko_83 : 83 < 123 ∧ k_kd 83 = 4 := by decide
theorem ka_84 : 84 < 123 ∧ k_kd 84 = 8 ∧ k_ln 84 = 5 := by decide
theorem ka_85 : 85 < 123 ∧ k_kd 85 = 8 ∧ k_ln 85 = 5 := by decide
theorem ka_86 : 86 < 123 ∧ k_kd 86 = 8 ∧ k_ln 86 = 5 := by decide
theorem ka_87 : 87 < 123 ∧ k_kd 87 = 8 ∧ k_ln 87 = 5 := by decide
theorem ka_88 : 88 < 123 ∧ k_kd 88 = 8 ∧ k_ln 88 = 5 := by decide
theorem ka_89 : 89 < 123 ∧ k_kd 89 = 8 ∧ k_ln 89 = 5 := by decide
theorem ka_90 : 90 < 123 ∧ k_kd 90 = 8 ∧ k_ln 90 = 5 := by decide
theorem ka_91 : 91 < 123 ∧ k_kd 91 = 8 ∧ k_ln 91 = 5 := by decide
theorem ka_92 : 92 < 123 ∧ k_kd 92 = 8 ∧ k_ln 92 = 5 := by decide
theorem ka_93 : 93 < 123 ∧ k_kd 93 = 8 ∧ k_ln 93 = 5 := by decide
theorem ka_94 : 94 < 123 ∧ k_kd 94 = 8 ∧ k_ln 94 = 5 := by decide
theorem ka_95 : 95 < 123 ∧ k_kd 95 = 8 ∧ k_ln 95 = 6 := by decide
theorem ka_96 : 96 < 123 ∧ k_kd 96 = 8 ∧ k_ln 96 = 6 := by decide
theorem ka_97 : 97 < 123 ∧ k_kd 97 = 8 ∧ k_ln 97 = 243 := by decide
theorem ka_98 : 98 < 123 ∧ k_kd 98 = 8 ∧ k_ln 98 = 243 := by decide
theorem ka_99 : 99 < 123 ∧ k_kd 99 = 8 ∧ k_ln 99 = 243 := by decide
theorem ko_100 : 100 < 123 ∧ k_kd 100 = 7 := by decide
theorem ka_101 : 101 < 123 ∧ k_kd 101 = 8 ∧ k_ln 101 = 5 := by decide
theorem ka_102 : 102 < 123 ∧ k_kd 102 = 8 ∧ k_ln 102 = 5 := by decide
theorem ka_103 : 103 < 123 ∧ k_kd 103 = 8 ∧ k_ln 103 = 5 := by decide
theorem ka_104 : 104 < 123 ∧ k_kd 104 = 8 ∧ k_ln 104 = 5 := by decide
theorem ka_105 : 105 < 123 ∧ k_kd 105 = 8 ∧ k_ln 105 = 5 := by decide
theorem ka_106 : 106 < 123 ∧ k_kd 106 = 8 ∧ k_ln 106 = 5 := by decide
theorem ka_107 : 107 < 123 ∧ k_kd 107 = 8 ∧ k_ln 107 = 5 := by decide
theorem ka_108 : 108 < 123 ∧ k_kd 108 = 8 ∧ k_ln 108 = 5 := by decide
theorem ka_109 : 109 < 123 ∧ k_kd 109 = 8 ∧ k_ln 109 = 5 := by decide
theorem ka_110 : 110 < 123 ∧ k_kd 110 = 8 ∧ k_ln 110 = 5 := by decide
theorem ka_111 : 111 < 123 ∧ k_kd 111 = 8 ∧ k_ln 111 = 5 := by decide
theorem ka_112 : 112 < 123 ∧ k_kd 112 = 8 ∧ k_ln 112 = 12 := by decide
theorem ka_113 : 113 < 123 ∧ k_kd 113 = 8 ∧ k_ln 113 = 60 := by decide
theorem ka_114 : 114 < 123 ∧ k_kd 114 = 8 ∧ k_ln 114 = 5 := by decide
theorem ka_115 : 115 < 123 ∧ k_kd 115 = 8 ∧ k_ln 115 = 5 := by decide
theorem ka_116 : 116 < 123 ∧ k_kd 116 = 8 ∧ k_ln 116 = 5 := by decide
theorem ka_117 : 117 < 123 ∧ k_kd 117 = 8 ∧ k_ln 117 = 5 := by decide
theorem ka_118 : 118 < 123 ∧ k_kd 118 = 8 ∧ k_ln 118 = 5 := by decide
theorem ka_119 : 119 < 123 ∧ k_kd 119 = 8 ∧ k_ln 119 = 7776 := by decide
theorem ka_120 : 120 < 123 ∧ k_kd 120 = 9 ∧ k_ln 120 = 3125 := by decide
theorem ka_121 : 121 < 123 ∧ k_kd 121 = 8 ∧ k_ln 121 = 200 := by decide
theorem ka_122 : 122 < 123 ∧ k_kd 122 = 9 ∧ k_ln 122 = 2 := by decide
section PUT
variable {G : KW} {l : Launch} {cc : ByteArray} {nL : Nat} {own : String} {rt : Option FieldType} {R : Room} {α : Type} {X : State → Array Value → Method → Prop} {Z : α → List Frame → Array Value → State → State → Prop} {k0 n0 pc index k : Nat} {L : List (Option Value)} {S : List Value} {σ : Sg} {F : Sg → Option α} {x : Int32}
theorem put_0_1 (lk : FLk own index 0 1 RX0 TX0 3) (hk : k < 123 ∧ k_kd k = 0) (d : decode cc pc = .ok (.putfield index, 3)) (kk : ∀ σ' : Sg, Okg G l cc nL own rt R X Z k0 n0 (pc + 3) L S σ' (F σ')) : Okg G l cc nL own rt R X Z k0 n0 pc L (.int x :: k_rr G k :: S) σ (e_lt (k_up σ k 1 x) F) :=
  ok_put (ty := .int) lk (by decide) hk tyX0 tyX0_ok nmX0 rfl (by decide +kernel) rfl rfl (Nat.le_of_ble_eq_true rfl) rfl d kk
theorem put_0_2 (lk : FLk own index 0 2 RX0 TX0 3) (hk : k < 123 ∧ k_kd k = 0) (d : decode cc pc = .ok (.putfield index, 3)) (kk : ∀ σ' : Sg, Okg G l cc nL own rt R X Z k0 n0 (pc + 3) L S σ' (F σ')) : Okg G l cc nL own rt R X Z k0 n0 pc L (.int x :: k_rr G k :: S) σ (e_lt (k_up σ k 2 x) F) :=
  ok_put (ty := .int) lk (by decide) hk tyX0 tyX0_ok nmX0 rfl (by decide +kernel) rfl rfl (Nat.le_of_ble_eq_true rfl) rfl d kk
theorem put_1_1 (lk : FLk own index 1 1 RX1 TX1 2) (hk : k < 123 ∧ k_kd k = 1) (d : decode cc pc = .ok (.putfield index, 3)) (kk : ∀ σ' : Sg, Okg G l cc nL own rt R X Z k0 n0 (pc + 3) L S σ' (F σ')) : Okg G l cc nL own rt R X Z k0 n0 pc L (.int x :: k_rr G k :: S) σ (e_lt (k_up σ k 1 x) F) :=
  ok_put (ty := .int) lk (by decide) hk tyX1 tyX1_ok nmX1 rfl (by decide +kernel) rfl rfl (Nat.le_of_ble_eq_true rfl) rfl d kk
theorem put_4_0 (lk : FLk own index 4 0 RX4 TX4 17) (hk : k < 123 ∧ k_kd k = 4) (d : decode cc pc = .ok (.putfield index, 3)) (kk : ∀ σ' : Sg, Okg G l cc nL own rt R X Z k0 n0 (pc + 3) L S σ' (F σ')) : Okg G l cc nL own rt R X Z k0 n0 pc L (.int x :: k_rr G k :: S) σ (e_lt (k_up σ k 0 x) F) :=
  ok_put (ty := .int) lk (by decide) hk tyX4 tyX4_ok nmX4 rfl (by decide +kernel) rfl rfl (Nat.le_of_ble_eq_true rfl) rfl d kk
theorem put_4_1 (lk : FLk own index 4 1 RX4 TX4 17) (hk : k < 123 ∧ k_kd k = 4) (d : decode cc pc = .ok (.putfield index, 3)) (kk : ∀ σ' : Sg, Okg G l cc nL own rt R X Z k0 n0 (pc + 3) L S σ' (F σ')) : Okg G l cc nL own rt R X Z k0 n0 pc L (.int x :: k_rr G k :: S) σ (e_lt (k_up σ k 1 x) F) :=
  ok_put (ty := .int) lk (by decide) hk tyX4 tyX4_ok nmX4 rfl (by decide +kernel) rfl rfl (Nat.le_of_ble_eq_true rfl) rfl d kk
theorem put_4_2 (lk : FLk own index 4 2 RX4 TX4 17) (hk : k < 123 ∧ k_kd k = 4) (d : decode cc pc = .ok (.putfield index, 3)) (kk : ∀ σ' : Sg, Okg G l cc nL own rt R X Z k0 n0 (pc + 3) L S σ' (F σ')) : Okg G l cc nL own rt R X Z k0 n0 pc L (.int x :: k_rr G k :: S) σ (e_lt (k_up σ k 2 x) F) :=
  ok_put (ty := .int) lk (by decide) hk tyX4 tyX4_ok nmX4 rfl (by decide +kernel) rfl rfl (Nat.le_of_ble_eq_true rfl) rfl d kk
theorem put_4_3 (lk : FLk own index 4 3 RX4 TX4 17) (hk : k < 123 ∧ k_kd k = 4) (d : decode cc pc = .ok (.putfield index, 3)) (kk : ∀ σ' : Sg, Okg G l cc nL own rt R X Z k0 n0 (pc + 3) L S σ' (F σ')) : Okg G l cc nL own rt R X Z k0 n0 pc L (.int x :: k_rr G k :: S) σ (e_lt (k_up σ k 3 x) F) :=
  ok_put (ty := .int) lk (by decide) hk tyX4 tyX4_ok nmX4 rfl (by decide +kernel) rfl rfl (Nat.le_of_ble_eq_true rfl) rfl d kk
theorem put_5_4 (lk : FLk own index 5 4 RX5 TX5 5) (hk : k < 123 ∧ k_kd k = 5) (hx : narrow .boolean (.int x) = .int x ∧ fits .boolean (.int x) = true) (d : decode cc pc = .ok (.putfield index, 3)) (kk : ∀ σ' : Sg, Okg G l cc nL own rt R X Z k0 n0 (pc + 3) L S σ' (F σ')) : Okg G l cc nL own rt R X Z k0 n0 pc L (.int x :: k_rr G k :: S) σ (e_lt (k_up σ k 4 x) F) :=
  ok_put (ty := .boolean) lk (by decide) hk tyX5 tyX5_ok nmX5 rfl (by decide +kernel) hx.1 hx.2 (Nat.le_of_ble_eq_true rfl) rfl d kk
theorem put_7_0 (lk : FLk own index 7 0 RX7 TX7 30) (hk : k < 123 ∧ k_kd k = 7) (d : decode cc pc = .ok (.putfield index, 3)) (kk : ∀ σ' : Sg, Okg G l cc nL own rt R X Z k0 n0 (pc + 3) L S σ' (F σ')) : Okg G l cc nL own rt R X Z k0 n0 pc L (.int x :: k_rr G k :: S) σ (e_lt (k_up σ k 0 x) F) :=
  ok_put (ty := .int) lk (by decide) hk tyX7 tyX7_ok nmX7 rfl (by decide +kernel) rfl rfl (Nat.le_of_ble_eq_true rfl) rfl d kk
theorem put_7_1 (lk : FLk own index 7 1 RX7 TX7 30) (hk : k < 123 ∧ k_kd k = 7) (d : decode cc pc = .ok (.putfield index, 3)) (kk : ∀ σ' : Sg, Okg G l cc nL own rt R X Z k0 n0 (pc + 3) L S σ' (F σ')) : Okg G l cc nL own rt R X Z k0 n0 pc L (.int x :: k_rr G k :: S) σ (e_lt (k_up σ k 1 x) F) :=
  ok_put (ty := .int) lk (by decide) hk tyX7 tyX7_ok nmX7 rfl (by decide +kernel) rfl rfl (Nat.le_of_ble_eq_true rfl) rfl d kk
theorem put_7_7 (lk : FLk own index 7 7 RX7 TX7 30) (hk : k < 123 ∧ k_kd k = 7) (d : decode cc pc = .ok (.putfield index, 3)) (kk : ∀ σ' : Sg, Okg G l cc nL own rt R X Z k0 n0 (pc + 3) L S σ' (F σ')) : Okg G l cc nL own rt R X Z k0 n0 pc L (.int x :: k_rr G k :: S) σ (e_lt (k_up σ k 7 x) F) :=
  ok_put (ty := .int) lk (by decide) hk tyX7 tyX7_ok nmX7 rfl (by decide +kernel) rfl rfl (Nat.le_of_ble_eq_true rfl) rfl d kk
theorem put_7_14 (lk : FLk own index 7 14 RX7 TX7 30) (hk : k < 123 ∧ k_kd k = 7) (d : decode cc pc = .ok (.putfield index, 3)) (kk : ∀ σ' : Sg, Okg G l cc nL own rt R X Z k0 n0 (pc + 3) L S σ' (F σ')) : Okg G l cc nL own rt R X Z k0 n0 pc L (.int x :: k_rr G k :: S) σ (e_lt (k_up σ k 14 x) F) :=
  ok_put (ty := .int) lk (by decide) hk tyX7 tyX7_ok nmX7 rfl (by decide +kernel) rfl rfl (Nat.le_of_ble_eq_true rfl) rfl d kk
theorem put_7_16 (lk : FLk own index 7 16 RX7 TX7 30) (hk : k < 123 ∧ k_kd k = 7) (d : decode cc pc = .ok (.putfield index, 3)) (kk : ∀ σ' : Sg, Okg G l cc nL own rt R X Z k0 n0 (pc + 3) L S σ' (F σ')) : Okg G l cc nL own rt R X Z k0 n0 pc L (.int x :: k_rr G k :: S) σ (e_lt (k_up σ k 16 x) F) :=
  ok_put (ty := .int) lk (by decide) hk tyX7 tyX7_ok nmX7 rfl (by decide +kernel) rfl rfl (Nat.le_of_ble_eq_true rfl) rfl d kk
theorem put_7_23 (lk : FLk own index 7 23 RX7 TX7 30) (hk : k < 123 ∧ k_kd k = 7) (d : decode cc pc = .ok (.putfield index, 3)) (kk : ∀ σ' : Sg, Okg G l cc nL own rt R X Z k0 n0 (pc + 3) L S σ' (F σ')) : Okg G l cc nL own rt R X Z k0 n0 pc L (.int x :: k_rr G k :: S) σ (e_lt (k_up σ k 23 x) F) :=
  ok_put (ty := .int) lk (by decide) hk tyX7 tyX7_ok nmX7 rfl (by decide +kernel) rfl rfl (Nat.le_of_ble_eq_true rfl) rfl d kk
theorem put_7_24 (lk : FLk own index 7 24 RX7 TX7 30) (hk : k < 123 ∧ k_kd k = 7) (d : decode cc pc = .ok (.putfield index, 3)) (kk : ∀ σ' : Sg, Okg G l cc nL own rt R X Z k0 n0 (pc + 3) L S σ' (F σ')) : Okg G l cc nL own rt R X Z k0 n0 pc L (.int x :: k_rr G k :: S) σ (e_lt (k_up σ k 24 x) F) :=
  ok_put (ty := .int) lk (by decide) hk tyX7 tyX7_ok nmX7 rfl (by decide +kernel) rfl rfl (Nat.le_of_ble_eq_true rfl) rfl d kk
theorem put_7_25 (lk : FLk own index 7 25 RX7 TX7 30) (hk : k < 123 ∧ k_kd k = 7) (d : decode cc pc = .ok (.putfield index, 3)) (kk : ∀ σ' : Sg, Okg G l cc nL own rt R X Z k0 n0 (pc + 3) L S σ' (F σ')) : Okg G l cc nL own rt R X Z k0 n0 pc L (.int x :: k_rr G k :: S) σ (e_lt (k_up σ k 25 x) F) :=
  ok_put (ty := .int) lk (by decide) hk tyX7 tyX7_ok nmX7 rfl (by decide +kernel) rfl rfl (Nat.le_of_ble_eq_true rfl) rfl d kk
end PUT
theorem mp_X4_86 : Cond.methodLink RX4 86 Lib.Math.min.name ∈ k_gw := gw_of 472 (by decide +kernel) rfl
theorem mp_X2_77 : Cond.methodLink RX2 77 Lib.Math.abs.name ∈ k_gw := gw_of 594 (by decide +kernel) rfl
theorem mc_min : Cond.code Lib.Math.min.name Lib.Math.min.code 2 (some .int) ∈ k_gw ∧ Cond.static Lib.Math.min.name ∈ k_gw ∧ Cond.initialized "java/lang/Math" ∈ k_gw := ⟨gw_of 474 (by decide +kernel) rfl, gw_of 473 (by decide +kernel) rfl, gw_of 108 (by decide +kernel) rfl⟩
def m_J9_min_7cf53 (x0 x1 : Int32) (σ : Sg) : Option (Int32 × Sg) := some (if x1 < x0 then x1 else x0, σ)
theorem call_J9_min_7cf53 {G : KW} {l : Launch} {cc : ByteArray} {nL : Nat} {own : String} {rt : Option FieldType} {R : Room} {α : Type} {X : State → Array Value → Method → Prop} {Z : α → List Frame → Array Value → State → State → Prop} {k0 n0 pc index : Nat} {L : List (Option Value)} {S : List Value} {σ : Sg} {F : Int32 → Sg → Option α} {x0 x1 : Int32} (lk : Cond.methodLink own index Lib.Math.min.name ∈ k_gw) (hR : R.frames ≥ 0 + 1 ∧ R.locals ≥ 8 + (2 + 11) + 0) (hcs : k0 ≤ R.cells ∧ n0 ≤ R.slots) (hro : (S.map fun v => v.category).sum ≤ 8) (d : decode cc pc = .ok (.invokestatic index, 3)) (kk : ∀ (r : Int32) (σ' : Sg), Okg G l cc nL own rt R X Z k0 n0 (pc + 3) L (.int r :: S) σ' (F r σ')) : Okg G l cc nL own rt R X Z k0 n0 pc L (.int x1 :: .int x0 :: S) σ (e_cI (m_J9_min_7cf53 x0 x1 σ) F) := by
  intro a ha p e s m args below meth c H locs ls C X0 hW hS hl
  exact va_mmin C.1 C.2.1 (by rw [C.2.2.1, hl.1]) C.2.2.2.1 (C.2.2.2.2.1 _ lk) (C.2.2.2.2.1 _ mc_min.2.1) (C.2.2.2.2.1 _ mc_min.2.2) (C.2.2.2.2.1 _ mc_min.1) hR.1 (by have := hR.2; omega) hcs.1 hcs.2 d (kk _ σ a ha p e s m args below meth c H locs ls C X0 hW hS hl)
theorem mc_abs : Cond.code Lib.Math.abs.name Lib.Math.abs.code 1 (some .int) ∈ k_gw ∧ Cond.static Lib.Math.abs.name ∈ k_gw ∧ Cond.initialized "java/lang/Math" ∈ k_gw := ⟨gw_of 596 (by decide +kernel) rfl, gw_of 595 (by decide +kernel) rfl, gw_of 108 (by decide +kernel) rfl⟩
def m_J9_abs_0f7a4 (x0 : Int32) (σ : Sg) : Option (Int32 × Sg) := some (if 0 ≤ x0 then x0 else 0 - x0, σ)
theorem call_J9_abs_0f7a4 {G : KW} {l : Launch} {cc : ByteArray} {nL : Nat} {own : String} {rt : Option FieldType} {R : Room} {α : Type} {X : State → Array Value → Method → Prop} {Z : α → List Frame → Array Value → State → State → Prop} {k0 n0 pc index : Nat} {L : List (Option Value)} {S : List Value} {σ : Sg} {F : Int32 → Sg → Option α} {x0 : Int32} (lk : Cond.methodLink own index Lib.Math.abs.name ∈ k_gw) (hR : R.frames ≥ 0 + 1 ∧ R.locals ≥ 8 + (2 + 11) + 0) (hcs : k0 ≤ R.cells ∧ n0 ≤ R.slots) (hro : (S.map fun v => v.category).sum ≤ 8) (d : decode cc pc = .ok (.invokestatic index, 3)) (kk : ∀ (r : Int32) (σ' : Sg), Okg G l cc nL own rt R X Z k0 n0 (pc + 3) L (.int r :: S) σ' (F r σ')) : Okg G l cc nL own rt R X Z k0 n0 pc L (.int x0 :: S) σ (e_cI (m_J9_abs_0f7a4 x0 σ) F) := by
  intro a ha p e s m args below meth c H locs ls C X0 hW hS hl
  exact va_mabs C.1 C.2.1 (by rw [C.2.2.1, hl.1]) C.2.2.2.1 (C.2.2.2.2.1 _ lk) (C.2.2.2.2.1 _ mc_abs.2.1) (C.2.2.2.2.1 _ mc_abs.2.2) (C.2.2.2.2.1 _ mc_abs.1) hR.1 (by have := hR.2; omega) hcs.1 hcs.2 d (kk _ σ a ha p e s m args below meth c H locs ls C X0 hW hS hl)
