def S0x : St := (fun f i j => match f with
  | 0 => (match j with
    | 2 => (400)
    | 3 => (80)
    | _ => 0)
  | 2 => (match j with
    | 1 => (100)
    | _ => 0)
  | 3 => (match j with
    | 0 => nI (i % 6)
    | _ => 0)
  | 5 => (match j with
    | 6 => (-5)
    | 7 => (60)
    | _ => 0)
  | 6 => (match j with
    | 1 => (-1)
    | _ => 0)
  | _ => 0,
  fun _ _ _ => 0, fun f i j => match f with
  | 1 => (match j with
    | 3 => some 0
    | _ => none)
  | 5 => (match j with
    | 8 => some 0
    | _ => none)
  | _ => none)
def S0m : St := (fun f i j => match f with
  | 8 => (match j with
    | 3 => (100)
    | 4 => (-1)
    | 5 => (60)
    | 12 => (-1)
    | 33 => (-5)
    | 34 => (-5)
    | 35 => (-5)
    | 45 => (-1)
    | 49 => (100)
    | 50 => (-1)
    | 51 => (60)
    | _ => 0)
  | 35 => (upd (upd (upd (upd (upd (upd (upd (upd (upd (upd (upd (upd (upd (upd (fun _ => 0) 0 (117 : Int32)) 1 (112 : Int32)) 2 (100 : Int32)) 3 (111 : Int32)) 4 (119 : Int32)) 5 (110 : Int32)) 6 (98 : Int32)) 7 (97 : Int32)) 8 (115 : Int32)) 9 (101 : Int32)) 10 (115 : Int32)) 11 (97 : Int32)) 12 (102 : Int32)) 13 (101 : Int32)) j
  | 53 => (upd (upd (upd (upd (upd (upd (fun _ => 0) 0 (-1 : Int32)) 1 (-1 : Int32)) 2 (-1 : Int32)) 3 (-1 : Int32)) 4 (-1 : Int32)) 5 (-1 : Int32)) j
  | _ => 0,
  fun _ _ _ => 0, fun _ _ _ => none)
