/-! q-th powers add -/
def Lq (q m x : Nat) (c : Nat → Nat) : Nat → Nat
  | 0 => 0
  | J + 1 => cmb q (c J) 13 (Lq q m x c J) (gp q m x J)
def Cc : Nat → Nat → Nat
  | 0, i => if i = 0 then 1 else 0
  | j + 1, i => (if i = 0 then 0 else Cc j (i - 1)) + Cc j i
section FRB
variable {q m d n x : Nat}
theorem Lq_lt (w : Wd q m d n) (hx : x < n) (c : Nat → Nat) : ∀ J, Lq q m x c J < n
  | 0 => by have := w.n2; show 0 < n; omega
  | J + 1 => cmb_ltn w (Lq_lt w hx c J) (gp_lt w hx J)
theorem Lq_dg (w : Wd q m d n) {c : Nat → Nat} {k : Nat} (hk : k < 13) : ∀ J, dg q (Lq q m x c J) k = sg (fun i => c i * dg q (gp q m x i) k) J % q
  | 0 => by
    show dg q 0 k = 0 % q
    rw [dg_zero, Nat.zero_mod]
  | J + 1 => by
    have h2 := w.q2
    show dg q (cmb q (c J) 13 (Lq q m x c J) (gp q m x J)) k = (sg _ J + c J * dg q (gp q m x J) k) % q
    rw [cmb_dg _ h2, if_pos hk, Lq_dg w hk J, Nat.mod_add_mod]
theorem sg_mul (f g : Nat → Nat) (h : Nat → Nat) : ∀ n, sg (fun i => (f i + g i) * h i) n = sg (fun i => f i * h i) n + sg (fun i => g i * h i) n
  | 0 => rfl
  | n + 1 => by
    show sg (fun i => (f i + g i) * h i) n + (f n + g n) * h n = sg (fun i => f i * h i) n + f n * h n + (sg (fun i => g i * h i) n + g n * h n)
    rw [sg_mul f g h n, Nat.add_mul]
    omega
theorem Lq_add (w : Wd q m d n) {c e : Nat → Nat} (J : Nat) : cmb q 1 13 (Lq q m x c J) (Lq q m x e J) = Lq q m x (fun i => c i + e i) J := by
  have h2 := w.q2
  have lt : ∀ c, Lq q m x c J < q ^ 13 := fun c => by
    cases J with
    | zero => exact Nat.pow_pos (by omega)
    | succ J => exact cmb_lt _ h2 13 _ _
  refine dg_ext h2 (cmb_lt _ h2 13 _ _) (lt _) (fun k hk => ?_)
  rw [cmb_dg _ h2, if_pos hk, Lq_dg w hk, Lq_dg w hk, Lq_dg w hk, Nat.one_mul, ← Nat.add_mod, sg_mul]
theorem Lq_shift (w : Wd q m d n) (hx : x < n) (c : Nat → Nat) : ∀ J, mu q m x (Lq q m x c J) = Lq q m x (fun i => if i = 0 then 0 else c (i - 1)) (J + 1)
  | 0 => by
    have h2 := w.q2
    show mu q m x 0 = cmb q 0 13 0 (gp q m x 0)
    rw [mu_0r h2, cmb_a h2 _ (Nat.pow_pos (by omega))]
  | J + 1 => by
    show mu q m x (cmb q (c J) 13 (Lq q m x c J) (gp q m x J)) = cmb q (c J) 13 (Lq q m x _ (J + 1)) (gp q m x (J + 1))
    rw [mu_lin w hx (Lq_lt w hx c J) (gp_lt w hx J), Lq_shift w hx c J, mu_comm w hx (gp_lt w hx J)]
    rfl
end FRB
