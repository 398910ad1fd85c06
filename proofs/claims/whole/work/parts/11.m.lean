abbrev mX5_init : MI := (RX5, "<init>", cX5_init, 1, .return_, 1)
def f_X5_init (a0 : Nat) (h : AH) : Option AH :=
  (na 13 30 h (30 : Int32)).bind fun h1 =>
  (pR 5 0 h1 (some a0) (some (hz h))).bind fun h2 =>
  some h2
theorem x_X5_init (G : Gm) (a0 : Nat) (h : AH) (o : AH) (hf : f_X5_init a0 h = some o) : GO G mX5_init 1 30 0 [(0, vr (some a0))] [] h none o := by
  unfold f_X5_init at hf
  refine g_aload_n dX5_init_0 rfl 0 rfl ?_
  refine g_obj dX5_init_1 mlRX5_3 im_objectInit cd_objectInit (Nat.le_of_ble_eq_true rfl) (by decide) ?_
  refine g_aload_n dX5_init_4 rfl 0 rfl ?_
  refine g_bipush (v := 30) dX5_init_5 rfl ?_
  obtain ⟨h1, eh1, hf⟩ := bd hf
  refine g_anew (kc := 0) (ks := 0) (t := 13) (j := 3) (cn := RX3) rfl (Nat.le_of_ble_eq_true rfl) (fun _ => rfl) (fun _ z => z.2.2.2.1) dX5_init_7 clRX5_9 (Nat.le_of_ble_eq_true rfl) eh1 ?_
  obtain ⟨h2, eh2, hf⟩ := bd hf
  refine g_putRF dX5_init_10 flRX5_11 rfl rfl (Or.inr ⟨_, rfl⟩) eh2 ?_
  cases hf
  exact g_ret dX5_init_13 rfl
theorem c_X5_init (G : Gm) (a0 : Nat) (h : AH) (o : AH) (hf : f_X5_init a0 h = some o) : CT G yX5_init mX5_init none 1 30 [vr (some a0)] h none o :=
  CT.void (by decide +kernel) rfl rfl rfl (Nat.le_of_ble_eq_true rfl) (x_X5_init G a0 h o hf)
theorem cbX5_init : CB yX5_init mX5_init none 0 := ⟨cd_yX5_init, itRX5, ⟨by decide, by decide⟩, by decide +kernel, by decide⟩
