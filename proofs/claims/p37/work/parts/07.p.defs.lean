/-! words, names and numbers that the rows speak of -/
/-- the words of the tables that a method may lean on -/
def m_BIG : List Cond := lw_tbl.filter goodWord
/-- words that a change of the tables keeps, but by laws of their own -/
def m_oddk (w : Cond) : Bool := match w with
  | .castable _ _ => true
  | .declares _ => true
  | .methodLinkNest _ _ _ _ => true
  | .arrayOver (.object _) => true
  | .arrayOver (.array _) => true
  | _ => false
def m_ODD : List Cond := lw_tbl.filter m_oddk
def m_strs : List (String × Nat × String) := [(RX11, 303, "no such member, instrument or order"), (RX11, 307, "an argument is out of range"), (RX11, 312, "this is not possible now"), (RX11, 99, "no such order"), (RX11, 140, "no such instrument"), (RX11, 172, "no such trade"), (RX11, 188, "no such member or instrument"), (RX11, 196, "no such member"), (RX11, 235, "no such reader")]
/-- the exceptions' classes -/
def m_xn (x : Nat) : String := match x with
  | 0 => "java/lang/IndexOutOfBoundsException"
  | 1 => "java/lang/IllegalArgumentException"
  | _ => "java/lang/IllegalStateException"
def m_xnames : List String := ["java/lang/RuntimeException", "java/lang/Exception"]
/-- pool entries of class NettingHall: the class, and its constructor -/
def m_xk (x : Nat) : Nat × Nat := match x with
  | 0 => (97, 101)
  | 1 => (305, 309)
  | _ => (310, 314)
